set_option maxHeartbeats 4000000 in
set_option maxRecDepth 100000 in
theorem c_X6_safe (l : Launch) (D : va_G) (cI cJ : ClassId) (h_0 h_0_of h_0_kept h_0_column h_0_size h_0_hidden h_0_cell h_0_home h_0_waste h_0_stock h_0_past h_0_start h_0_known h_0_sorted h_0_row h_0_best : Nat) (I_0 : Nat → Nat → Int32) (L_0 : Nat → Nat → Int64) (rv : Int32) (r_I_0 : Nat → Nat → Int32) (r_L_0 : Nat → Nat → Int64) (hF : F_X6_safe I_0 L_0 = some (rv, r_I_0, r_L_0)) : CtI l D [(cI, .int), (cJ, .long)] yX6_safe wtX6_safe ({ frames := 5, cells := 0, slots := 0, locals := 119 } : Room) [.ref h_0] [(h_0, oX6 h_0_of h_0_kept h_0_column h_0_size h_0_hidden h_0_cell h_0_home h_0_waste h_0_stock h_0_past h_0_start h_0_known h_0_sorted h_0_row h_0_best I_0), (h_0_of, eI cI 9 (I_0 1)), (h_0_kept, eI cI 9 (I_0 2)), (h_0_column, eJ cJ 5 (L_0 0)), (h_0_size, eI cI 5 (I_0 3)), (h_0_hidden, eI cI 5 (I_0 4)), (h_0_cell, eI cI 2 (I_0 5)), (h_0_home, eI cI 4 (I_0 6)), (h_0_waste, eI cI 8 (I_0 7)), (h_0_stock, eI cI 8 (I_0 8)), (h_0_past, eJ cJ 1616 (L_0 1)), (h_0_start, eJ cJ 8 (L_0 2)), (h_0_known, eJ cJ 3216 (L_0 3)), (h_0_sorted, eJ cJ 3216 (L_0 4)), (h_0_row, eI cI 16 (I_0 9)), (h_0_best, eJ cJ 8 (L_0 5))] [(h_0, oX6 h_0_of h_0_kept h_0_column h_0_size h_0_hidden h_0_cell h_0_home h_0_waste h_0_stock h_0_past h_0_start h_0_known h_0_sorted h_0_row h_0_best r_I_0), (h_0_of, eI cI 9 (r_I_0 1)), (h_0_kept, eI cI 9 (r_I_0 2)), (h_0_column, eJ cJ 5 (r_L_0 0)), (h_0_size, eI cI 5 (r_I_0 3)), (h_0_hidden, eI cI 5 (r_I_0 4)), (h_0_cell, eI cI 2 (r_I_0 5)), (h_0_home, eI cI 4 (r_I_0 6)), (h_0_waste, eI cI 8 (r_I_0 7)), (h_0_stock, eI cI 8 (r_I_0 8)), (h_0_past, eJ cJ 1616 (r_L_0 1)), (h_0_start, eJ cJ 8 (r_L_0 2)), (h_0_known, eJ cJ 3216 (r_L_0 3)), (h_0_sorted, eJ cJ 3216 (r_L_0 4)), (h_0_row, eI cI 16 (r_I_0 9)), (h_0_best, eJ cJ 8 (r_L_0 5))] rv := by
  refine CtI.of (cc := cX6_safe) (maxL := 4) (by decide) rfl (Nat.le_of_ble_eq_true rfl) ?_
  intro p e s m args below meth c A H0 Q ls X hS hl kret
  have hCF := X.1
  obtain ⟨⟨hx, hb, hml, hown, hts⟩, hK, hA⟩ := X
  have hl : lv_has ls 4 [(0, .ref h_0)] := hl
  have q0 := hts (.fieldLink RX6 148 "PatienceryModel" "done" "I") (List.mem_cons_of_mem _ mw_305)
  have inX6 : ∀ w ∈ u_ws RX6 TX6 32, w ∈ wtX6_safe := fun w h => List.mem_cons_of_mem _ (inlX6 w h)
  have q2 := hts (.fieldLink RX6 83 "PatienceryModel" "thrown" "I") (List.mem_cons_of_mem _ mw_241)
  have B65 : ∀ (K9 : (Nat → Nat → Int32) → (Nat → Nat → Int64) → Int32 → Int32 → Option (Int32 × (Nat → Nat → Int32) × (Nat → Nat → Int64))) (_ : ∀ (I_0 : Nat → Nat → Int32) (L_0 : Nat → Nat → Int64) (v1 : Int32) (v2 : Int32) (H : Heap) (locs : List Loc) (ls : Array Slot), HS D A H0 [(h_0, oX6 h_0_of h_0_kept h_0_column h_0_size h_0_hidden h_0_cell h_0_home h_0_waste h_0_stock h_0_past h_0_start h_0_known h_0_sorted h_0_row h_0_best I_0), (h_0_of, eI cI 9 (I_0 1)), (h_0_kept, eI cI 9 (I_0 2)), (h_0_column, eJ cJ 5 (L_0 0)), (h_0_size, eI cI 5 (I_0 3)), (h_0_hidden, eI cI 5 (I_0 4)), (h_0_cell, eI cI 2 (I_0 5)), (h_0_home, eI cI 4 (I_0 6)), (h_0_waste, eI cI 8 (I_0 7)), (h_0_stock, eI cI 8 (I_0 8)), (h_0_past, eJ cJ 1616 (L_0 1)), (h_0_start, eJ cJ 8 (L_0 2)), (h_0_known, eJ cJ 3216 (L_0 3)), (h_0_sorted, eJ cJ 3216 (L_0 4)), (h_0_row, eI cI 16 (I_0 9)), (h_0_best, eJ cJ 8 (L_0 5))] H locs → lv_has ls 4 [(0, .ref h_0), (1, .int v1), (2, .int v2)] → K9 I_0 L_0 v1 v2 = some (rv, r_I_0, r_L_0) → W p l e ({ frames := 5, cells := 0, slots := 0, locals := 119 } : Room) s m args below meth c H locs 0 0 Q (F0 m 9 ls [])) (K27 : (Nat → Nat → Int32) → (Nat → Nat → Int64) → Int32 → Int32 → Int32 → Option (Int32 × (Nat → Nat → Int32) × (Nat → Nat → Int64))) (_ : ∀ (I_0 : Nat → Nat → Int32) (L_0 : Nat → Nat → Int64) (v1 : Int32) (v2 : Int32) (v3 : Int32) (H : Heap) (locs : List Loc) (ls : Array Slot), HS D A H0 [(h_0, oX6 h_0_of h_0_kept h_0_column h_0_size h_0_hidden h_0_cell h_0_home h_0_waste h_0_stock h_0_past h_0_start h_0_known h_0_sorted h_0_row h_0_best I_0), (h_0_of, eI cI 9 (I_0 1)), (h_0_kept, eI cI 9 (I_0 2)), (h_0_column, eJ cJ 5 (L_0 0)), (h_0_size, eI cI 5 (I_0 3)), (h_0_hidden, eI cI 5 (I_0 4)), (h_0_cell, eI cI 2 (I_0 5)), (h_0_home, eI cI 4 (I_0 6)), (h_0_waste, eI cI 8 (I_0 7)), (h_0_stock, eI cI 8 (I_0 8)), (h_0_past, eJ cJ 1616 (L_0 1)), (h_0_start, eJ cJ 8 (L_0 2)), (h_0_known, eJ cJ 3216 (L_0 3)), (h_0_sorted, eJ cJ 3216 (L_0 4)), (h_0_row, eI cI 16 (I_0 9)), (h_0_best, eJ cJ 8 (L_0 5))] H locs → lv_has ls 4 [(0, .ref h_0), (1, .int v1), (2, .int v2), (3, .int v3)] → K27 I_0 L_0 v1 v2 v3 = some (rv, r_I_0, r_L_0) → W p l e ({ frames := 5, cells := 0, slots := 0, locals := 119 } : Room) s m args below meth c H locs 0 0 Q (F0 m 27 ls [])) (I_0 : Nat → Nat → Int32) (L_0 : Nat → Nat → Int64) (v1 : Int32) (v3 : Int32) (s0 : Int32) (H : Heap) (locs : List Loc) (ls : Array Slot), HS D A H0 [(h_0, oX6 h_0_of h_0_kept h_0_column h_0_size h_0_hidden h_0_cell h_0_home h_0_waste h_0_stock h_0_past h_0_start h_0_known h_0_sorted h_0_row h_0_best I_0), (h_0_of, eI cI 9 (I_0 1)), (h_0_kept, eI cI 9 (I_0 2)), (h_0_column, eJ cJ 5 (L_0 0)), (h_0_size, eI cI 5 (I_0 3)), (h_0_hidden, eI cI 5 (I_0 4)), (h_0_cell, eI cI 2 (I_0 5)), (h_0_home, eI cI 4 (I_0 6)), (h_0_waste, eI cI 8 (I_0 7)), (h_0_stock, eI cI 8 (I_0 8)), (h_0_past, eJ cJ 1616 (L_0 1)), (h_0_start, eJ cJ 8 (L_0 2)), (h_0_known, eJ cJ 3216 (L_0 3)), (h_0_sorted, eJ cJ 3216 (L_0 4)), (h_0_row, eI cI 16 (I_0 9)), (h_0_best, eJ cJ 8 (L_0 5))] H locs → lv_has ls 4 [(0, .ref h_0), (1, .int v1), (3, .int v3)] → F_X6_safe_b65  K9 K27 I_0 L_0 v1 v3 s0 = some (rv, r_I_0, r_L_0) → W p l e ({ frames := 5, cells := 0, slots := 0, locals := 119 } : Room) s m args below meth c H locs 0 0 Q (F0 m 65 ls [.int s0]) := by
    intro K9 hK9 K27 hK27 I_0 L_0 v1 v3 s0 H locs ls hS hl hF
    unfold F_X6_safe_b65 at hF
    refine lv_istore_n (lv' := [(2, .int s0), (0, .ref h_0), (1, .int v1), (3, .int v3)]) hx hb dX6_safe_65 rfl hl (by decide) rfl (fun ls hl => ?_)
    refine lv_iload_n hx hb dX6_safe_66 rfl (lv_at hl 0 rfl) ?_
    refine lv_if_eq (tgt := 81) hx hb dX6_safe_67 (by decide) (fun c_1 => ?_) (fun c_1 => ?_)
    · replace hF := ifp hF c_1
      refine lv_iinc (v := v3 + (nI 1)) (lv' := [(3, .int (v3 + (nI 1))), (2, .int s0), (0, .ref h_0), (1, .int v1)]) hx hb dX6_safe_81 hl (k := 3) rfl rfl (by decide) rfl (fun ls hl => ?_)
      refine lv_goto (tgt := 27) hx hb dX6_safe_84 (by decide) ?_
      exact hK27 I_0 L_0 v1 s0 (v3 + (nI 1)) _ _ _ hS (lv_sub hl [2, 3, 1, 0] rfl) hF
    · replace hF := ifn hF c_1
      refine lv_aload_n hx hb dX6_safe_70 rfl (lv_at hl 1 rfl) ?_
      refine lv_iload_n hx hb dX6_safe_71 rfl (lv_at hl 3 rfl) ?_
      refine lv_bipush (v := (nI 8)) hx hb dX6_safe_72 (by decide) ?_
      refine lv_iconst (v := (nI 1)) hx hb dX6_safe_74 (by decide) ?_
      replace hF := cal2_e hF
      obtain ⟨I_0u2, L_0u3, hc4, hF⟩ := hF
      refine kV_v (As := [.int v3, .int (nI 8), .int (nI 1)]) (rest := []) (wr := []) (w2 := [(h_0, oX6 h_0_of h_0_kept h_0_column h_0_size h_0_hidden h_0_cell h_0_home h_0_waste h_0_stock h_0_past h_0_start h_0_known h_0_sorted h_0_row h_0_best I_0u2), (h_0_of, eI cI 9 (I_0u2 1)), (h_0_kept, eI cI 9 (I_0u2 2)), (h_0_column, eJ cJ 5 (L_0u3 0)), (h_0_size, eI cI 5 (I_0u2 3)), (h_0_hidden, eI cI 5 (I_0u2 4)), (h_0_cell, eI cI 2 (I_0u2 5)), (h_0_home, eI cI 4 (I_0u2 6)), (h_0_waste, eI cI 8 (I_0u2 7)), (h_0_stock, eI cI 8 (I_0u2 8)), (h_0_past, eJ cJ 1616 (L_0u3 1)), (h_0_start, eJ cJ 8 (L_0u3 2)), (h_0_known, eJ cJ 3216 (L_0u3 3)), (h_0_sorted, eJ cJ 3216 (L_0u3 4)), (h_0_row, eI cI 16 (I_0u2 9)), (h_0_best, eJ cJ 8 (L_0u3 5))]) hCF hK (c_X6_doMove l D cI cJ h_0 h_0_of h_0_kept h_0_column h_0_size h_0_hidden h_0_cell h_0_home h_0_waste h_0_stock h_0_past h_0_start h_0_known h_0_sorted h_0_row h_0_best I_0 L_0 v3 (nI 8) (nI 1) I_0u2 L_0u3 hc4) (cwV 3 hts (TBL_V mw_485 mw_486 mw_487 mw_5 mw_488) rfl rfl rfl pmX6_doMove ⟨Nat.le_of_ble_eq_true rfl, Nat.le_of_ble_eq_true rfl⟩) hS hA [0, 1, 2, 3, 4, 5, 6, 7, 8, 9, 10, 11, 12, 13, 14, 15] [] rfl rfl rfl rfl (by decide) rfl rfl rfl hl.1 rfl (Nat.le_of_ble_eq_true rfl) ⟨Nat.zero_le _, Nat.zero_le _⟩ dX6_safe_75 rfl (fun H locs hS => ?_)
      refine lv_iinc (v := v1 + (nI 1)) (lv' := [(1, .int (v1 + (nI 1))), (2, .int s0), (0, .ref h_0), (3, .int v3)]) hx hb dX6_safe_78 hl (k := 2) rfl rfl (by decide) rfl (fun ls hl => ?_)
      refine lv_iinc (v := v3 + (nI 1)) (lv' := [(3, .int (v3 + (nI 1))), (1, .int (v1 + (nI 1))), (2, .int s0), (0, .ref h_0)]) hx hb dX6_safe_81 hl (k := 3) rfl rfl (by decide) rfl (fun ls hl => ?_)
      refine lv_goto (tgt := 27) hx hb dX6_safe_84 (by decide) ?_
      exact hK27 I_0u2 L_0u3 (v1 + (nI 1)) s0 (v3 + (nI 1)) _ _ _ hS (lv_sub hl [3, 1, 2, 0] rfl) hF
  have S27 : ∀ (K9 : (Nat → Nat → Int32) → (Nat → Nat → Int64) → Int32 → Int32 → Option (Int32 × (Nat → Nat → Int32) × (Nat → Nat → Int64))) (_ : ∀ (I_0 : Nat → Nat → Int32) (L_0 : Nat → Nat → Int64) (v1 : Int32) (v2 : Int32) (H : Heap) (locs : List Loc) (ls : Array Slot), HS D A H0 [(h_0, oX6 h_0_of h_0_kept h_0_column h_0_size h_0_hidden h_0_cell h_0_home h_0_waste h_0_stock h_0_past h_0_start h_0_known h_0_sorted h_0_row h_0_best I_0), (h_0_of, eI cI 9 (I_0 1)), (h_0_kept, eI cI 9 (I_0 2)), (h_0_column, eJ cJ 5 (L_0 0)), (h_0_size, eI cI 5 (I_0 3)), (h_0_hidden, eI cI 5 (I_0 4)), (h_0_cell, eI cI 2 (I_0 5)), (h_0_home, eI cI 4 (I_0 6)), (h_0_waste, eI cI 8 (I_0 7)), (h_0_stock, eI cI 8 (I_0 8)), (h_0_past, eJ cJ 1616 (L_0 1)), (h_0_start, eJ cJ 8 (L_0 2)), (h_0_known, eJ cJ 3216 (L_0 3)), (h_0_sorted, eJ cJ 3216 (L_0 4)), (h_0_row, eI cI 16 (I_0 9)), (h_0_best, eJ cJ 8 (L_0 5))] H locs → lv_has ls 4 [(0, .ref h_0), (1, .int v1), (2, .int v2)] → K9 I_0 L_0 v1 v2 = some (rv, r_I_0, r_L_0) → W p l e ({ frames := 5, cells := 0, slots := 0, locals := 119 } : Room) s m args below meth c H locs 0 0 Q (F0 m 9 ls [])) (K27 : (Nat → Nat → Int32) → (Nat → Nat → Int64) → Int32 → Int32 → Int32 → Option (Int32 × (Nat → Nat → Int32) × (Nat → Nat → Int64))) (_ : ∀ (I_0 : Nat → Nat → Int32) (L_0 : Nat → Nat → Int64) (v1 : Int32) (v2 : Int32) (v3 : Int32) (H : Heap) (locs : List Loc) (ls : Array Slot), HS D A H0 [(h_0, oX6 h_0_of h_0_kept h_0_column h_0_size h_0_hidden h_0_cell h_0_home h_0_waste h_0_stock h_0_past h_0_start h_0_known h_0_sorted h_0_row h_0_best I_0), (h_0_of, eI cI 9 (I_0 1)), (h_0_kept, eI cI 9 (I_0 2)), (h_0_column, eJ cJ 5 (L_0 0)), (h_0_size, eI cI 5 (I_0 3)), (h_0_hidden, eI cI 5 (I_0 4)), (h_0_cell, eI cI 2 (I_0 5)), (h_0_home, eI cI 4 (I_0 6)), (h_0_waste, eI cI 8 (I_0 7)), (h_0_stock, eI cI 8 (I_0 8)), (h_0_past, eJ cJ 1616 (L_0 1)), (h_0_start, eJ cJ 8 (L_0 2)), (h_0_known, eJ cJ 3216 (L_0 3)), (h_0_sorted, eJ cJ 3216 (L_0 4)), (h_0_row, eI cI 16 (I_0 9)), (h_0_best, eJ cJ 8 (L_0 5))] H locs → lv_has ls 4 [(0, .ref h_0), (1, .int v1), (2, .int v2), (3, .int v3)] → K27 I_0 L_0 v1 v2 v3 = some (rv, r_I_0, r_L_0) → W p l e ({ frames := 5, cells := 0, slots := 0, locals := 119 } : Room) s m args below meth c H locs 0 0 Q (F0 m 27 ls [])) (I_0 : Nat → Nat → Int32) (L_0 : Nat → Nat → Int64) (v1 : Int32) (v2 : Int32) (v3 : Int32) (H : Heap) (locs : List Loc) (ls : Array Slot), HS D A H0 [(h_0, oX6 h_0_of h_0_kept h_0_column h_0_size h_0_hidden h_0_cell h_0_home h_0_waste h_0_stock h_0_past h_0_start h_0_known h_0_sorted h_0_row h_0_best I_0), (h_0_of, eI cI 9 (I_0 1)), (h_0_kept, eI cI 9 (I_0 2)), (h_0_column, eJ cJ 5 (L_0 0)), (h_0_size, eI cI 5 (I_0 3)), (h_0_hidden, eI cI 5 (I_0 4)), (h_0_cell, eI cI 2 (I_0 5)), (h_0_home, eI cI 4 (I_0 6)), (h_0_waste, eI cI 8 (I_0 7)), (h_0_stock, eI cI 8 (I_0 8)), (h_0_past, eJ cJ 1616 (L_0 1)), (h_0_start, eJ cJ 8 (L_0 2)), (h_0_known, eJ cJ 3216 (L_0 3)), (h_0_sorted, eJ cJ 3216 (L_0 4)), (h_0_row, eI cI 16 (I_0 9)), (h_0_best, eJ cJ 8 (L_0 5))] H locs → lv_has ls 4 [(0, .ref h_0), (1, .int v1), (2, .int v2), (3, .int v3)] → F_X6_safe_s27  K9 K27 I_0 L_0 v1 v2 v3 = some (rv, r_I_0, r_L_0) → W p l e ({ frames := 5, cells := 0, slots := 0, locals := 119 } : Room) s m args below meth c H locs 0 0 Q (F0 m 27 ls []) := by
    intro K9 hK9 K27 hK27 I_0 L_0 v1 v2 v3 H locs ls hS hl hF
    unfold F_X6_safe_s27 at hF
    refine lv_iload_n hx hb dX6_safe_27 rfl (lv_at hl 3 rfl) ?_
    refine lv_bipush (v := (nI 7)) hx hb dX6_safe_28 (by decide) ?_
    refine lv_icmp_gt (tgt := 87) hx hb dX6_safe_30 (by decide) (fun c_5 => ?_) (fun c_5 => ?_)
    · replace hF := ifp hF c_5
      refine lv_goto (tgt := 9) hx hb dX6_safe_87 (by decide) ?_
      exact hK9 I_0 L_0 v1 v2 _ _ _ hS (lv_sub hl [0, 1, 2] rfl) hF
    · replace hF := ifn hF c_5
      refine lv_iload_n hx hb dX6_safe_33 rfl (lv_at hl 2 rfl) ?_
      refine lv_if_ne (tgt := 87) hx hb dX6_safe_34 (by decide) (fun c_6 => ?_) (fun c_6 => ?_)
      · replace hF := ifn hF c_6
        refine lv_goto (tgt := 9) hx hb dX6_safe_87 (by decide) ?_
        exact hK9 I_0 L_0 v1 v2 _ _ _ hS (lv_sub hl [0, 1, 2] rfl) hF
      · replace hF := ifp hF c_6
        refine lv_aload_n hx hb dX6_safe_37 rfl (lv_at hl 0 rfl) ?_
        refine lv_iload_n hx hb dX6_safe_38 rfl (lv_at hl 3 rfl) ?_
        refine lv_bipush (v := (nI 8)) hx hb dX6_safe_39 (by decide) ?_
        refine lv_iconst (v := (nI 1)) hx hb dX6_safe_41 (by decide) ?_
        replace hF := cal1_e hF
        obtain ⟨x7, hc8, hF⟩ := hF
        refine kV_i (As := [.int v3, .int (nI 8), .int (nI 1)]) (rest := []) (wr := []) (w2 := [(h_0, oX6 h_0_of h_0_kept h_0_column h_0_size h_0_hidden h_0_cell h_0_home h_0_waste h_0_stock h_0_past h_0_start h_0_known h_0_sorted h_0_row h_0_best I_0), (h_0_of, eI cI 9 (I_0 1)), (h_0_kept, eI cI 9 (I_0 2)), (h_0_column, eJ cJ 5 (L_0 0)), (h_0_size, eI cI 5 (I_0 3)), (h_0_hidden, eI cI 5 (I_0 4)), (h_0_cell, eI cI 2 (I_0 5)), (h_0_home, eI cI 4 (I_0 6)), (h_0_waste, eI cI 8 (I_0 7)), (h_0_stock, eI cI 8 (I_0 8)), (h_0_past, eJ cJ 1616 (L_0 1)), (h_0_start, eJ cJ 8 (L_0 2)), (h_0_known, eJ cJ 3216 (L_0 3)), (h_0_sorted, eJ cJ 3216 (L_0 4)), (h_0_row, eI cI 16 (I_0 9)), (h_0_best, eJ cJ 8 (L_0 5))]) hCF hK (c_X6_isMove l D cI cJ h_0 h_0_of h_0_kept h_0_column h_0_size h_0_hidden h_0_cell h_0_home h_0_waste h_0_stock h_0_past h_0_start h_0_known h_0_sorted h_0_row h_0_best I_0 L_0 v3 (nI 8) (nI 1) x7 hc8) (cwV 3 hts (TBL_V mw_453 mw_454 mw_455 mw_5 mw_456) rfl rfl rfl pmX6_isMove ⟨Nat.le_of_ble_eq_true rfl, Nat.le_of_ble_eq_true rfl⟩) hS hA [0, 1, 2, 3, 4, 5, 6, 7, 8, 9, 10, 11, 12, 13, 14, 15] [] rfl rfl rfl rfl (by decide) rfl rfl rfl hl.1 rfl (Nat.le_of_ble_eq_true rfl) ⟨Nat.zero_le _, Nat.zero_le _⟩ dX6_safe_42 rfl (fun H locs hS => ?_)
        refine lv_if_eq (tgt := 64) hx hb dX6_safe_45 (by decide) (fun c_9 => ?_) (fun c_9 => ?_)
        · replace hF := ifp hF c_9
          refine lv_iconst (v := (nI 0)) hx hb dX6_safe_64 (by decide) ?_
          exact B65 K9 hK9 K27 hK27 I_0 L_0 v1 v3 (nI 0) _ _ _ hS (lv_sub hl [0, 1, 3] rfl) hF
        · replace hF := ifn hF c_9
          refine lv_aload_n hx hb dX6_safe_48 rfl (lv_at hl 0 rfl) ?_
          refine lv_aload_n hx hb dX6_safe_49 rfl (lv_at hl 0 rfl) ?_
          refine lv_iload_n hx hb dX6_safe_50 rfl (lv_at hl 3 rfl) ?_
          replace hF := cal1_e hF
          obtain ⟨x10, hc11, hF⟩ := hF
          refine kV_i (As := [.int v3]) (rest := [.ref h_0]) (wr := []) (w2 := [(h_0, oX6 h_0_of h_0_kept h_0_column h_0_size h_0_hidden h_0_cell h_0_home h_0_waste h_0_stock h_0_past h_0_start h_0_known h_0_sorted h_0_row h_0_best I_0), (h_0_of, eI cI 9 (I_0 1)), (h_0_kept, eI cI 9 (I_0 2)), (h_0_column, eJ cJ 5 (L_0 0)), (h_0_size, eI cI 5 (I_0 3)), (h_0_hidden, eI cI 5 (I_0 4)), (h_0_cell, eI cI 2 (I_0 5)), (h_0_home, eI cI 4 (I_0 6)), (h_0_waste, eI cI 8 (I_0 7)), (h_0_stock, eI cI 8 (I_0 8)), (h_0_past, eJ cJ 1616 (L_0 1)), (h_0_start, eJ cJ 8 (L_0 2)), (h_0_known, eJ cJ 3216 (L_0 3)), (h_0_sorted, eJ cJ 3216 (L_0 4)), (h_0_row, eI cI 16 (I_0 9)), (h_0_best, eJ cJ 8 (L_0 5))]) hCF hK (c_X6_lastOf l D cI cJ h_0 h_0_of h_0_kept h_0_column h_0_size h_0_hidden h_0_cell h_0_home h_0_waste h_0_stock h_0_past h_0_start h_0_known h_0_sorted h_0_row h_0_best I_0 L_0 v3 x10 hc11) (cwV 1 hts (TBL_V mw_481 mw_482 mw_483 mw_5 mw_484) rfl rfl rfl pmX6_lastOf ⟨Nat.le_of_ble_eq_true rfl, Nat.le_of_ble_eq_true rfl⟩) hS hA [0, 1, 2, 3, 4, 5, 6, 7, 8, 9, 10, 11, 12, 13, 14, 15] [] rfl rfl rfl rfl (by decide) rfl rfl rfl hl.1 rfl (Nat.le_of_ble_eq_true rfl) ⟨Nat.zero_le _, Nat.zero_le _⟩ dX6_safe_51 rfl (fun H locs hS => ?_)
          replace hF := cal1_e hF
          obtain ⟨x12, hc13, hF⟩ := hF
          refine kV_i (As := [.int x10]) (rest := []) (wr := []) (w2 := [(h_0, oX6 h_0_of h_0_kept h_0_column h_0_size h_0_hidden h_0_cell h_0_home h_0_waste h_0_stock h_0_past h_0_start h_0_known h_0_sorted h_0_row h_0_best I_0), (h_0_of, eI cI 9 (I_0 1)), (h_0_kept, eI cI 9 (I_0 2)), (h_0_column, eJ cJ 5 (L_0 0)), (h_0_size, eI cI 5 (I_0 3)), (h_0_hidden, eI cI 5 (I_0 4)), (h_0_cell, eI cI 2 (I_0 5)), (h_0_home, eI cI 4 (I_0 6)), (h_0_waste, eI cI 8 (I_0 7)), (h_0_stock, eI cI 8 (I_0 8)), (h_0_past, eJ cJ 1616 (L_0 1)), (h_0_start, eJ cJ 8 (L_0 2)), (h_0_known, eJ cJ 3216 (L_0 3)), (h_0_sorted, eJ cJ 3216 (L_0 4)), (h_0_row, eI cI 16 (I_0 9)), (h_0_best, eJ cJ 8 (L_0 5))]) hCF hK (c_X6_isSafe l D cI cJ h_0 h_0_of h_0_kept h_0_column h_0_size h_0_hidden h_0_cell h_0_home h_0_waste h_0_stock h_0_past h_0_start h_0_known h_0_sorted h_0_row h_0_best I_0 L_0 x10 x12 hc13) (cwV 1 hts (TBL_V mw_548 mw_549 mw_550 mw_5 mw_551) rfl rfl rfl pmX6_isSafe ⟨Nat.le_of_ble_eq_true rfl, Nat.le_of_ble_eq_true rfl⟩) hS hA [0, 1, 2, 3, 4, 5, 6, 7, 8, 9, 10, 11, 12, 13, 14, 15] [] rfl rfl rfl rfl (by decide) rfl rfl rfl hl.1 rfl (Nat.le_of_ble_eq_true rfl) ⟨Nat.zero_le _, Nat.zero_le _⟩ dX6_safe_54 rfl (fun H locs hS => ?_)
          refine lv_if_eq (tgt := 64) hx hb dX6_safe_57 (by decide) (fun c_14 => ?_) (fun c_14 => ?_)
          · replace hF := ifp hF c_14
            refine lv_iconst (v := (nI 0)) hx hb dX6_safe_64 (by decide) ?_
            exact B65 K9 hK9 K27 hK27 I_0 L_0 v1 v3 (nI 0) _ _ _ hS (lv_sub hl [0, 1, 3] rfl) hF
          · replace hF := ifn hF c_14
            refine lv_iconst (v := (nI 1)) hx hb dX6_safe_60 (by decide) ?_
            refine lv_goto (tgt := 65) hx hb dX6_safe_61 (by decide) ?_
            exact B65 K9 hK9 K27 hK27 I_0 L_0 v1 v3 (nI 1) _ _ _ hS (lv_sub hl [0, 1, 3] rfl) hF
  have L27 : ∀ (K9 : (Nat → Nat → Int32) → (Nat → Nat → Int64) → Int32 → Int32 → Option (Int32 × (Nat → Nat → Int32) × (Nat → Nat → Int64))) (_ : ∀ (I_0 : Nat → Nat → Int32) (L_0 : Nat → Nat → Int64) (v1 : Int32) (v2 : Int32) (H : Heap) (locs : List Loc) (ls : Array Slot), HS D A H0 [(h_0, oX6 h_0_of h_0_kept h_0_column h_0_size h_0_hidden h_0_cell h_0_home h_0_waste h_0_stock h_0_past h_0_start h_0_known h_0_sorted h_0_row h_0_best I_0), (h_0_of, eI cI 9 (I_0 1)), (h_0_kept, eI cI 9 (I_0 2)), (h_0_column, eJ cJ 5 (L_0 0)), (h_0_size, eI cI 5 (I_0 3)), (h_0_hidden, eI cI 5 (I_0 4)), (h_0_cell, eI cI 2 (I_0 5)), (h_0_home, eI cI 4 (I_0 6)), (h_0_waste, eI cI 8 (I_0 7)), (h_0_stock, eI cI 8 (I_0 8)), (h_0_past, eJ cJ 1616 (L_0 1)), (h_0_start, eJ cJ 8 (L_0 2)), (h_0_known, eJ cJ 3216 (L_0 3)), (h_0_sorted, eJ cJ 3216 (L_0 4)), (h_0_row, eI cI 16 (I_0 9)), (h_0_best, eJ cJ 8 (L_0 5))] H locs → lv_has ls 4 [(0, .ref h_0), (1, .int v1), (2, .int v2)] → K9 I_0 L_0 v1 v2 = some (rv, r_I_0, r_L_0) → W p l e ({ frames := 5, cells := 0, slots := 0, locals := 119 } : Room) s m args below meth c H locs 0 0 Q (F0 m 9 ls [])) (n : Nat) (I_0 : Nat → Nat → Int32) (L_0 : Nat → Nat → Int64) (v1 : Int32) (v2 : Int32) (v3 : Int32) (H : Heap) (locs : List Loc) (ls : Array Slot), HS D A H0 [(h_0, oX6 h_0_of h_0_kept h_0_column h_0_size h_0_hidden h_0_cell h_0_home h_0_waste h_0_stock h_0_past h_0_start h_0_known h_0_sorted h_0_row h_0_best I_0), (h_0_of, eI cI 9 (I_0 1)), (h_0_kept, eI cI 9 (I_0 2)), (h_0_column, eJ cJ 5 (L_0 0)), (h_0_size, eI cI 5 (I_0 3)), (h_0_hidden, eI cI 5 (I_0 4)), (h_0_cell, eI cI 2 (I_0 5)), (h_0_home, eI cI 4 (I_0 6)), (h_0_waste, eI cI 8 (I_0 7)), (h_0_stock, eI cI 8 (I_0 8)), (h_0_past, eJ cJ 1616 (L_0 1)), (h_0_start, eJ cJ 8 (L_0 2)), (h_0_known, eJ cJ 3216 (L_0 3)), (h_0_sorted, eJ cJ 3216 (L_0 4)), (h_0_row, eI cI 16 (I_0 9)), (h_0_best, eJ cJ 8 (L_0 5))] H locs → lv_has ls 4 [(0, .ref h_0), (1, .int v1), (2, .int v2), (3, .int v3)] → F_X6_safe_L27  K9 n I_0 L_0 v1 v2 v3 = some (rv, r_I_0, r_L_0) → W p l e ({ frames := 5, cells := 0, slots := 0, locals := 119 } : Room) s m args below meth c H locs 0 0 Q (F0 m 27 ls []) := by
    intro K9 hK9 n
    induction n with
    | zero => intro I_0 L_0 v1 v2 v3 H locs ls hS hl hF; exact nomatch (show (none : Option (Int32 × (Nat → Nat → Int32) × (Nat → Nat → Int64))) = some _ from hF)
    | succ n ih => intro I_0 L_0 v1 v2 v3 H locs ls hS hl hF; exact S27 K9 hK9 _ ih I_0 L_0 v1 v2 v3 H locs ls hS hl hF
  have S9 : ∀ (K9 : (Nat → Nat → Int32) → (Nat → Nat → Int64) → Int32 → Int32 → Option (Int32 × (Nat → Nat → Int32) × (Nat → Nat → Int64))) (_ : ∀ (I_0 : Nat → Nat → Int32) (L_0 : Nat → Nat → Int64) (v1 : Int32) (v2 : Int32) (H : Heap) (locs : List Loc) (ls : Array Slot), HS D A H0 [(h_0, oX6 h_0_of h_0_kept h_0_column h_0_size h_0_hidden h_0_cell h_0_home h_0_waste h_0_stock h_0_past h_0_start h_0_known h_0_sorted h_0_row h_0_best I_0), (h_0_of, eI cI 9 (I_0 1)), (h_0_kept, eI cI 9 (I_0 2)), (h_0_column, eJ cJ 5 (L_0 0)), (h_0_size, eI cI 5 (I_0 3)), (h_0_hidden, eI cI 5 (I_0 4)), (h_0_cell, eI cI 2 (I_0 5)), (h_0_home, eI cI 4 (I_0 6)), (h_0_waste, eI cI 8 (I_0 7)), (h_0_stock, eI cI 8 (I_0 8)), (h_0_past, eJ cJ 1616 (L_0 1)), (h_0_start, eJ cJ 8 (L_0 2)), (h_0_known, eJ cJ 3216 (L_0 3)), (h_0_sorted, eJ cJ 3216 (L_0 4)), (h_0_row, eI cI 16 (I_0 9)), (h_0_best, eJ cJ 8 (L_0 5))] H locs → lv_has ls 4 [(0, .ref h_0), (1, .int v1), (2, .int v2)] → K9 I_0 L_0 v1 v2 = some (rv, r_I_0, r_L_0) → W p l e ({ frames := 5, cells := 0, slots := 0, locals := 119 } : Room) s m args below meth c H locs 0 0 Q (F0 m 9 ls [])) (I_0 : Nat → Nat → Int32) (L_0 : Nat → Nat → Int64) (v1 : Int32) (v2 : Int32) (H : Heap) (locs : List Loc) (ls : Array Slot), HS D A H0 [(h_0, oX6 h_0_of h_0_kept h_0_column h_0_size h_0_hidden h_0_cell h_0_home h_0_waste h_0_stock h_0_past h_0_start h_0_known h_0_sorted h_0_row h_0_best I_0), (h_0_of, eI cI 9 (I_0 1)), (h_0_kept, eI cI 9 (I_0 2)), (h_0_column, eJ cJ 5 (L_0 0)), (h_0_size, eI cI 5 (I_0 3)), (h_0_hidden, eI cI 5 (I_0 4)), (h_0_cell, eI cI 2 (I_0 5)), (h_0_home, eI cI 4 (I_0 6)), (h_0_waste, eI cI 8 (I_0 7)), (h_0_stock, eI cI 8 (I_0 8)), (h_0_past, eJ cJ 1616 (L_0 1)), (h_0_start, eJ cJ 8 (L_0 2)), (h_0_known, eJ cJ 3216 (L_0 3)), (h_0_sorted, eJ cJ 3216 (L_0 4)), (h_0_row, eI cI 16 (I_0 9)), (h_0_best, eJ cJ 8 (L_0 5))] H locs → lv_has ls 4 [(0, .ref h_0), (1, .int v1), (2, .int v2)] → F_X6_safe_s9  K9 I_0 L_0 v1 v2 = some (rv, r_I_0, r_L_0) → W p l e ({ frames := 5, cells := 0, slots := 0, locals := 119 } : Room) s m args below meth c H locs 0 0 Q (F0 m 9 ls []) := by
    intro K9 hK9 I_0 L_0 v1 v2 H locs ls hS hl hF
    unfold F_X6_safe_s9 at hF
    refine lv_iload_n hx hb dX6_safe_9 rfl (lv_at hl 2 rfl) ?_
    refine lv_if_eq (tgt := 90) hx hb dX6_safe_10 (by decide) (fun c_15 => ?_) (fun c_15 => ?_)
    · replace hF := ifp hF c_15
      refine lv_iload_n hx hb dX6_safe_90 rfl (lv_at hl 1 rfl) ?_
      have e9_0 := Option.some.inj hF
      obtain ⟨f9_0, e9_1⟩ := Prod.mk.inj e9_0
      obtain ⟨f9_1, e9_2⟩ := Prod.mk.inj e9_1
      subst f9_0
      subst f9_1
      subst e9_2
      exact kret _ _ _ _ hS dX6_safe_91
    · replace hF := ifn hF c_15
      refine lv_aload_n hx hb dX6_safe_13 rfl (lv_at hl 0 rfl) ?_
      refine r_get hx hb hts inX6 hown hK hS 0 13 rfl rfl (by decide) q0 rfl dX6_safe_14 ?_
      refine lv_sipush (v := (nI 200)) hx hb dX6_safe_17 (by decide) ?_
      refine lv_icmp_ge (tgt := 90) hx hb dX6_safe_20 (by decide) (fun c_16 => ?_) (fun c_16 => ?_)
      · replace hF := ifp hF c_16
        refine lv_iload_n hx hb dX6_safe_90 rfl (lv_at hl 1 rfl) ?_
        have e9_0 := Option.some.inj hF
        obtain ⟨f9_0, e9_1⟩ := Prod.mk.inj e9_0
        obtain ⟨f9_1, e9_2⟩ := Prod.mk.inj e9_1
        subst f9_0
        subst f9_1
        subst e9_2
        exact kret _ _ _ _ hS dX6_safe_91
      · replace hF := ifn hF c_16
        refine lv_iconst (v := (nI 0)) hx hb dX6_safe_23 (by decide) ?_
        refine lv_istore_n (lv' := [(2, .int (nI 0)), (0, .ref h_0), (1, .int v1)]) hx hb dX6_safe_24 rfl hl (by decide) rfl (fun ls hl => ?_)
        refine lv_iconst (v := (nI 0)) hx hb dX6_safe_25 (by decide) ?_
        refine lv_istore_n (lv' := [(3, .int (nI 0)), (2, .int (nI 0)), (0, .ref h_0), (1, .int v1)]) hx hb dX6_safe_26 rfl hl (by decide) rfl (fun ls hl => ?_)
        exact L27 K9 hK9 FU I_0 L_0 v1 (nI 0) (nI 0) _ _ _ hS (lv_sub hl [2, 3, 1, 0] rfl) hF
  have L9 : ∀  (n : Nat) (I_0 : Nat → Nat → Int32) (L_0 : Nat → Nat → Int64) (v1 : Int32) (v2 : Int32) (H : Heap) (locs : List Loc) (ls : Array Slot), HS D A H0 [(h_0, oX6 h_0_of h_0_kept h_0_column h_0_size h_0_hidden h_0_cell h_0_home h_0_waste h_0_stock h_0_past h_0_start h_0_known h_0_sorted h_0_row h_0_best I_0), (h_0_of, eI cI 9 (I_0 1)), (h_0_kept, eI cI 9 (I_0 2)), (h_0_column, eJ cJ 5 (L_0 0)), (h_0_size, eI cI 5 (I_0 3)), (h_0_hidden, eI cI 5 (I_0 4)), (h_0_cell, eI cI 2 (I_0 5)), (h_0_home, eI cI 4 (I_0 6)), (h_0_waste, eI cI 8 (I_0 7)), (h_0_stock, eI cI 8 (I_0 8)), (h_0_past, eJ cJ 1616 (L_0 1)), (h_0_start, eJ cJ 8 (L_0 2)), (h_0_known, eJ cJ 3216 (L_0 3)), (h_0_sorted, eJ cJ 3216 (L_0 4)), (h_0_row, eI cI 16 (I_0 9)), (h_0_best, eJ cJ 8 (L_0 5))] H locs → lv_has ls 4 [(0, .ref h_0), (1, .int v1), (2, .int v2)] → F_X6_safe_L9   n I_0 L_0 v1 v2 = some (rv, r_I_0, r_L_0) → W p l e ({ frames := 5, cells := 0, slots := 0, locals := 119 } : Room) s m args below meth c H locs 0 0 Q (F0 m 9 ls []) := by
    intro  n
    induction n with
    | zero => intro I_0 L_0 v1 v2 H locs ls hS hl hF; exact nomatch (show (none : Option (Int32 × (Nat → Nat → Int32) × (Nat → Nat → Int64))) = some _ from hF)
    | succ n ih => intro I_0 L_0 v1 v2 H locs ls hS hl hF; exact S9  _ ih I_0 L_0 v1 v2 H locs ls hS hl hF
  unfold F_X6_safe at hF
  refine lv_aload_n hx hb dX6_safe_0 rfl (lv_at hl 0 rfl) ?_
  refine lv_iconst (v := (nI 0)) hx hb dX6_safe_1 (by decide) ?_
  replace hF := bnd_e hF
  obtain ⟨I_0u17, eI_0u17, hF⟩ := hF
  refine r_put (w2 := [(h_0, oX6 h_0_of h_0_kept h_0_column h_0_size h_0_hidden h_0_cell h_0_home h_0_waste h_0_stock h_0_past h_0_start h_0_known h_0_sorted h_0_row h_0_best I_0u17), (h_0_of, eI cI 9 (I_0u17 1)), (h_0_kept, eI cI 9 (I_0u17 2)), (h_0_column, eJ cJ 5 (L_0 0)), (h_0_size, eI cI 5 (I_0u17 3)), (h_0_hidden, eI cI 5 (I_0u17 4)), (h_0_cell, eI cI 2 (I_0u17 5)), (h_0_home, eI cI 4 (I_0u17 6)), (h_0_waste, eI cI 8 (I_0u17 7)), (h_0_stock, eI cI 8 (I_0u17 8)), (h_0_past, eJ cJ 1616 (L_0 1)), (h_0_start, eJ cJ 8 (L_0 2)), (h_0_known, eJ cJ 3216 (L_0 3)), (h_0_sorted, eJ cJ 3216 (L_0 4)), (h_0_row, eI cI 16 (I_0u17 9)), (h_0_best, eJ cJ 8 (L_0 5))]) hx hb hts inX6 tyX6 tyX6_ok nmX6 hown hK hS 0 0 rfl rfl (by decide) q2 rfl rfl rfl (Nat.le_of_ble_eq_true rfl) dX6_safe_2 (by rw [eI_0u17]; rfl) (fun H locs hS => ?_)
  refine lv_iconst (v := (nI 0)) hx hb dX6_safe_5 (by decide) ?_
  refine lv_istore_n (lv' := [(1, .int (nI 0)), (0, .ref h_0)]) hx hb dX6_safe_6 rfl hl (by decide) rfl (fun ls hl => ?_)
  refine lv_iconst (v := (nI 1)) hx hb dX6_safe_7 (by decide) ?_
  refine lv_istore_n (lv' := [(2, .int (nI 1)), (1, .int (nI 0)), (0, .ref h_0)]) hx hb dX6_safe_8 rfl hl (by decide) rfl (fun ls hl => ?_)
  exact L9 FU I_0u17 L_0 (nI 0) (nI 1) _ _ _ hS (lv_sub hl [2, 1, 0] rfl) hF
set_option maxHeartbeats 4000000 in
set_option maxRecDepth 100000 in
theorem c_X6_find (l : Launch) (D : va_G) (cI cJ : ClassId) (h_0 h_0_of h_0_kept h_0_column h_0_size h_0_hidden h_0_cell h_0_home h_0_waste h_0_stock h_0_past h_0_start h_0_known h_0_sorted h_0_row h_0_best : Nat) (I_0 : Nat → Nat → Int32) (L_0 : Nat → Nat → Int64) (v1 : Int32) (rv : Int32) (hF : F_X6_find I_0 L_0 v1 = some rv) : CtI l D [(cI, .int), (cJ, .long)] yX6_find wtX6_find ({ frames := 5, cells := 0, slots := 0, locals := 119 } : Room) [.ref h_0, .int v1] [(h_0, oX6 h_0_of h_0_kept h_0_column h_0_size h_0_hidden h_0_cell h_0_home h_0_waste h_0_stock h_0_past h_0_start h_0_known h_0_sorted h_0_row h_0_best I_0), (h_0_of, eI cI 9 (I_0 1)), (h_0_kept, eI cI 9 (I_0 2)), (h_0_column, eJ cJ 5 (L_0 0)), (h_0_size, eI cI 5 (I_0 3)), (h_0_hidden, eI cI 5 (I_0 4)), (h_0_cell, eI cI 2 (I_0 5)), (h_0_home, eI cI 4 (I_0 6)), (h_0_waste, eI cI 8 (I_0 7)), (h_0_stock, eI cI 8 (I_0 8)), (h_0_past, eJ cJ 1616 (L_0 1)), (h_0_start, eJ cJ 8 (L_0 2)), (h_0_known, eJ cJ 3216 (L_0 3)), (h_0_sorted, eJ cJ 3216 (L_0 4)), (h_0_row, eI cI 16 (I_0 9)), (h_0_best, eJ cJ 8 (L_0 5))] [(h_0, oX6 h_0_of h_0_kept h_0_column h_0_size h_0_hidden h_0_cell h_0_home h_0_waste h_0_stock h_0_past h_0_start h_0_known h_0_sorted h_0_row h_0_best I_0), (h_0_of, eI cI 9 (I_0 1)), (h_0_kept, eI cI 9 (I_0 2)), (h_0_column, eJ cJ 5 (L_0 0)), (h_0_size, eI cI 5 (I_0 3)), (h_0_hidden, eI cI 5 (I_0 4)), (h_0_cell, eI cI 2 (I_0 5)), (h_0_home, eI cI 4 (I_0 6)), (h_0_waste, eI cI 8 (I_0 7)), (h_0_stock, eI cI 8 (I_0 8)), (h_0_past, eJ cJ 1616 (L_0 1)), (h_0_start, eJ cJ 8 (L_0 2)), (h_0_known, eJ cJ 3216 (L_0 3)), (h_0_sorted, eJ cJ 3216 (L_0 4)), (h_0_row, eI cI 16 (I_0 9)), (h_0_best, eJ cJ 8 (L_0 5))] rv := by
  refine CtI.of (cc := cX6_find) (maxL := 8) (by decide) rfl (Nat.le_of_ble_eq_true rfl) ?_
  intro p e s m args below meth c A H0 Q ls X hS hl kret
  have hCF := X.1
  obtain ⟨⟨hx, hb, hml, hown, hts⟩, hK, hA⟩ := X
  have hl : lv_has ls 8 [(0, .ref h_0), (1, .int v1)] := hl
  have B90 : ∀ (v4 : Int32) (v5 : Int32) (v6 : Int32) (H : Heap) (locs : List Loc) (ls : Array Slot), HS D A H0 [(h_0, oX6 h_0_of h_0_kept h_0_column h_0_size h_0_hidden h_0_cell h_0_home h_0_waste h_0_stock h_0_past h_0_start h_0_known h_0_sorted h_0_row h_0_best I_0), (h_0_of, eI cI 9 (I_0 1)), (h_0_kept, eI cI 9 (I_0 2)), (h_0_column, eJ cJ 5 (L_0 0)), (h_0_size, eI cI 5 (I_0 3)), (h_0_hidden, eI cI 5 (I_0 4)), (h_0_cell, eI cI 2 (I_0 5)), (h_0_home, eI cI 4 (I_0 6)), (h_0_waste, eI cI 8 (I_0 7)), (h_0_stock, eI cI 8 (I_0 8)), (h_0_past, eJ cJ 1616 (L_0 1)), (h_0_start, eJ cJ 8 (L_0 2)), (h_0_known, eJ cJ 3216 (L_0 3)), (h_0_sorted, eJ cJ 3216 (L_0 4)), (h_0_row, eI cI 16 (I_0 9)), (h_0_best, eJ cJ 8 (L_0 5))] H locs → lv_has ls 8 [(4, .int v4), (5, .int v5), (6, .int v6)] → F_X6_find_b90 I_0 L_0  v4 v5 v6 = some rv → W p l e ({ frames := 5, cells := 0, slots := 0, locals := 119 } : Room) s m args below meth c H locs 0 0 Q (F0 m 90 ls []) := by
    intro v4 v5 v6 H locs ls hS hl hF
    unfold F_X6_find_b90 at hF
    refine lv_sipush (v := (nI 1000)) hx hb dX6_find_90 (by decide) ?_
    refine lv_iload hx hb dX6_find_93 (lv_at hl 0 rfl) ?_
    refine lv_imul hx hb dX6_find_95 ?_
    refine lv_bipush (v := (nI 100)) hx hb dX6_find_96 (by decide) ?_
    refine lv_iload hx hb dX6_find_98 (lv_at hl 1 rfl) ?_
    refine lv_imul hx hb dX6_find_100 ?_
    refine lv_iadd hx hb dX6_find_101 ?_
    refine lv_iload hx hb dX6_find_102 (lv_at hl 2 rfl) ?_
    refine lv_iadd hx hb dX6_find_104 ?_
    have e9_0 := Option.some.inj hF
    subst e9_0
    exact kret _ _ _ _ hS dX6_find_105
  have B65 : ∀ (K4 : Int32 → Int32 → Int32 → Option (Int32)) (_ : ∀ (v1 : Int32) (v2 : Int32) (v3 : Int32) (H : Heap) (locs : List Loc) (ls : Array Slot), HS D A H0 [(h_0, oX6 h_0_of h_0_kept h_0_column h_0_size h_0_hidden h_0_cell h_0_home h_0_waste h_0_stock h_0_past h_0_start h_0_known h_0_sorted h_0_row h_0_best I_0), (h_0_of, eI cI 9 (I_0 1)), (h_0_kept, eI cI 9 (I_0 2)), (h_0_column, eJ cJ 5 (L_0 0)), (h_0_size, eI cI 5 (I_0 3)), (h_0_hidden, eI cI 5 (I_0 4)), (h_0_cell, eI cI 2 (I_0 5)), (h_0_home, eI cI 4 (I_0 6)), (h_0_waste, eI cI 8 (I_0 7)), (h_0_stock, eI cI 8 (I_0 8)), (h_0_past, eJ cJ 1616 (L_0 1)), (h_0_start, eJ cJ 8 (L_0 2)), (h_0_known, eJ cJ 3216 (L_0 3)), (h_0_sorted, eJ cJ 3216 (L_0 4)), (h_0_row, eI cI 16 (I_0 9)), (h_0_best, eJ cJ 8 (L_0 5))] H locs → lv_has ls 8 [(0, .ref h_0), (1, .int v1), (2, .int v2), (3, .int v3)] → K4 v1 v2 v3 = some rv → W p l e ({ frames := 5, cells := 0, slots := 0, locals := 119 } : Room) s m args below meth c H locs 0 0 Q (F0 m 4 ls [])) (v1 : Int32) (v2 : Int32) (v3 : Int32) (v4 : Int32) (v5 : Int32) (v6 : Int32) (s0 : Int32) (H : Heap) (locs : List Loc) (ls : Array Slot), HS D A H0 [(h_0, oX6 h_0_of h_0_kept h_0_column h_0_size h_0_hidden h_0_cell h_0_home h_0_waste h_0_stock h_0_past h_0_start h_0_known h_0_sorted h_0_row h_0_best I_0), (h_0_of, eI cI 9 (I_0 1)), (h_0_kept, eI cI 9 (I_0 2)), (h_0_column, eJ cJ 5 (L_0 0)), (h_0_size, eI cI 5 (I_0 3)), (h_0_hidden, eI cI 5 (I_0 4)), (h_0_cell, eI cI 2 (I_0 5)), (h_0_home, eI cI 4 (I_0 6)), (h_0_waste, eI cI 8 (I_0 7)), (h_0_stock, eI cI 8 (I_0 8)), (h_0_past, eJ cJ 1616 (L_0 1)), (h_0_start, eJ cJ 8 (L_0 2)), (h_0_known, eJ cJ 3216 (L_0 3)), (h_0_sorted, eJ cJ 3216 (L_0 4)), (h_0_row, eI cI 16 (I_0 9)), (h_0_best, eJ cJ 8 (L_0 5))] H locs → lv_has ls 8 [(0, .ref h_0), (1, .int v1), (2, .int v2), (3, .int v3), (4, .int v4), (5, .int v5), (6, .int v6)] → F_X6_find_b65 I_0 L_0 K4 v1 v2 v3 v4 v5 v6 s0 = some rv → W p l e ({ frames := 5, cells := 0, slots := 0, locals := 119 } : Room) s m args below meth c H locs 0 0 Q (F0 m 65 ls [.int s0]) := by
    intro K4 hK4 v1 v2 v3 v4 v5 v6 s0 H locs ls hS hl hF
    unfold F_X6_find_b65 at hF
    refine lv_istore (lv' := [(7, .int s0), (0, .ref h_0), (1, .int v1), (2, .int v2), (3, .int v3), (4, .int v4), (5, .int v5), (6, .int v6)]) hx hb dX6_find_65 hl (by decide) rfl (fun ls hl => ?_)
    refine lv_iload hx hb dX6_find_67 (lv_at hl 0 rfl) ?_
    refine lv_if_eq (tgt := 109) hx hb dX6_find_69 (by decide) (fun c_1 => ?_) (fun c_1 => ?_)
    · replace hF := ifp hF c_1
      refine lv_iinc (v := v3 + (nI 1)) (lv' := [(3, .int (v3 + (nI 1))), (7, .int s0), (0, .ref h_0), (1, .int v1), (2, .int v2), (4, .int v4), (5, .int v5), (6, .int v6)]) hx hb dX6_find_109 hl (k := 4) rfl rfl (by decide) rfl (fun ls hl => ?_)
      refine lv_goto (tgt := 4) hx hb dX6_find_112 (by decide) ?_
      exact hK4 v1 v2 (v3 + (nI 1)) _ _ _ hS (lv_sub hl [2, 3, 4, 0] rfl) hF
    · replace hF := ifn hF c_1
      refine lv_aload_n hx hb dX6_find_72 rfl (lv_at hl 1 rfl) ?_
      refine lv_iload hx hb dX6_find_73 (lv_at hl 5 rfl) ?_
      refine lv_iload hx hb dX6_find_75 (lv_at hl 6 rfl) ?_
      refine lv_iload hx hb dX6_find_77 (lv_at hl 7 rfl) ?_
      replace hF := cal1_e hF
      obtain ⟨x2, hc3, hF⟩ := hF
      refine kV_i (As := [.int v4, .int v5, .int v6]) (rest := []) (wr := []) (w2 := [(h_0, oX6 h_0_of h_0_kept h_0_column h_0_size h_0_hidden h_0_cell h_0_home h_0_waste h_0_stock h_0_past h_0_start h_0_known h_0_sorted h_0_row h_0_best I_0), (h_0_of, eI cI 9 (I_0 1)), (h_0_kept, eI cI 9 (I_0 2)), (h_0_column, eJ cJ 5 (L_0 0)), (h_0_size, eI cI 5 (I_0 3)), (h_0_hidden, eI cI 5 (I_0 4)), (h_0_cell, eI cI 2 (I_0 5)), (h_0_home, eI cI 4 (I_0 6)), (h_0_waste, eI cI 8 (I_0 7)), (h_0_stock, eI cI 8 (I_0 8)), (h_0_past, eJ cJ 1616 (L_0 1)), (h_0_start, eJ cJ 8 (L_0 2)), (h_0_known, eJ cJ 3216 (L_0 3)), (h_0_sorted, eJ cJ 3216 (L_0 4)), (h_0_row, eI cI 16 (I_0 9)), (h_0_best, eJ cJ 8 (L_0 5))]) hCF hK (c_X6_isMove l D cI cJ h_0 h_0_of h_0_kept h_0_column h_0_size h_0_hidden h_0_cell h_0_home h_0_waste h_0_stock h_0_past h_0_start h_0_known h_0_sorted h_0_row h_0_best I_0 L_0 v4 v5 v6 x2 hc3) (cwV 3 hts (TBL_V mw_453 mw_454 mw_455 mw_5 mw_456) rfl rfl rfl pmX6_isMove ⟨Nat.le_of_ble_eq_true rfl, Nat.le_of_ble_eq_true rfl⟩) hS hA [0, 1, 2, 3, 4, 5, 6, 7, 8, 9, 10, 11, 12, 13, 14, 15] [] rfl rfl rfl rfl (by decide) rfl rfl rfl hl.1 rfl (Nat.le_of_ble_eq_true rfl) ⟨Nat.zero_le _, Nat.zero_le _⟩ dX6_find_79 rfl (fun H locs hS => ?_)
      refine lv_if_eq (tgt := 109) hx hb dX6_find_82 (by decide) (fun c_4 => ?_) (fun c_4 => ?_)
      · replace hF := ifp hF c_4
        refine lv_iinc (v := v3 + (nI 1)) (lv' := [(3, .int (v3 + (nI 1))), (7, .int s0), (0, .ref h_0), (1, .int v1), (2, .int v2), (4, .int v4), (5, .int v5), (6, .int v6)]) hx hb dX6_find_109 hl (k := 4) rfl rfl (by decide) rfl (fun ls hl => ?_)
        refine lv_goto (tgt := 4) hx hb dX6_find_112 (by decide) ?_
        exact hK4 v1 v2 (v3 + (nI 1)) _ _ _ hS (lv_sub hl [2, 3, 4, 0] rfl) hF
      · replace hF := ifn hF c_4
        refine lv_iload_n hx hb dX6_find_85 rfl (lv_at hl 3 rfl) ?_
        refine lv_iload_n hx hb dX6_find_86 rfl (lv_at hl 2 rfl) ?_
        refine lv_icmp_ne (tgt := 106) hx hb dX6_find_87 (by decide) (fun c_5 => ?_) (fun c_5 => ?_)
        · replace hF := ifn hF c_5
          refine lv_iinc (v := v2 + (nI 1)) (lv' := [(2, .int (v2 + (nI 1))), (7, .int s0), (0, .ref h_0), (1, .int v1), (3, .int v3), (4, .int v4), (5, .int v5), (6, .int v6)]) hx hb dX6_find_106 hl (k := 3) rfl rfl (by decide) rfl (fun ls hl => ?_)
          refine lv_iinc (v := v3 + (nI 1)) (lv' := [(3, .int (v3 + (nI 1))), (2, .int (v2 + (nI 1))), (7, .int s0), (0, .ref h_0), (1, .int v1), (4, .int v4), (5, .int v5), (6, .int v6)]) hx hb dX6_find_109 hl (k := 4) rfl rfl (by decide) rfl (fun ls hl => ?_)
          refine lv_goto (tgt := 4) hx hb dX6_find_112 (by decide) ?_
          exact hK4 v1 (v2 + (nI 1)) (v3 + (nI 1)) _ _ _ hS (lv_sub hl [3, 4, 1, 0] rfl) hF
        · replace hF := ifp hF c_5
          exact B90 v4 v5 v6 _ _ _ hS (lv_sub hl [5, 6, 7] rfl) hF
  have S4 : ∀ (K4 : Int32 → Int32 → Int32 → Option (Int32)) (_ : ∀ (v1 : Int32) (v2 : Int32) (v3 : Int32) (H : Heap) (locs : List Loc) (ls : Array Slot), HS D A H0 [(h_0, oX6 h_0_of h_0_kept h_0_column h_0_size h_0_hidden h_0_cell h_0_home h_0_waste h_0_stock h_0_past h_0_start h_0_known h_0_sorted h_0_row h_0_best I_0), (h_0_of, eI cI 9 (I_0 1)), (h_0_kept, eI cI 9 (I_0 2)), (h_0_column, eJ cJ 5 (L_0 0)), (h_0_size, eI cI 5 (I_0 3)), (h_0_hidden, eI cI 5 (I_0 4)), (h_0_cell, eI cI 2 (I_0 5)), (h_0_home, eI cI 4 (I_0 6)), (h_0_waste, eI cI 8 (I_0 7)), (h_0_stock, eI cI 8 (I_0 8)), (h_0_past, eJ cJ 1616 (L_0 1)), (h_0_start, eJ cJ 8 (L_0 2)), (h_0_known, eJ cJ 3216 (L_0 3)), (h_0_sorted, eJ cJ 3216 (L_0 4)), (h_0_row, eI cI 16 (I_0 9)), (h_0_best, eJ cJ 8 (L_0 5))] H locs → lv_has ls 8 [(0, .ref h_0), (1, .int v1), (2, .int v2), (3, .int v3)] → K4 v1 v2 v3 = some rv → W p l e ({ frames := 5, cells := 0, slots := 0, locals := 119 } : Room) s m args below meth c H locs 0 0 Q (F0 m 4 ls [])) (v1 : Int32) (v2 : Int32) (v3 : Int32) (H : Heap) (locs : List Loc) (ls : Array Slot), HS D A H0 [(h_0, oX6 h_0_of h_0_kept h_0_column h_0_size h_0_hidden h_0_cell h_0_home h_0_waste h_0_stock h_0_past h_0_start h_0_known h_0_sorted h_0_row h_0_best I_0), (h_0_of, eI cI 9 (I_0 1)), (h_0_kept, eI cI 9 (I_0 2)), (h_0_column, eJ cJ 5 (L_0 0)), (h_0_size, eI cI 5 (I_0 3)), (h_0_hidden, eI cI 5 (I_0 4)), (h_0_cell, eI cI 2 (I_0 5)), (h_0_home, eI cI 4 (I_0 6)), (h_0_waste, eI cI 8 (I_0 7)), (h_0_stock, eI cI 8 (I_0 8)), (h_0_past, eJ cJ 1616 (L_0 1)), (h_0_start, eJ cJ 8 (L_0 2)), (h_0_known, eJ cJ 3216 (L_0 3)), (h_0_sorted, eJ cJ 3216 (L_0 4)), (h_0_row, eI cI 16 (I_0 9)), (h_0_best, eJ cJ 8 (L_0 5))] H locs → lv_has ls 8 [(0, .ref h_0), (1, .int v1), (2, .int v2), (3, .int v3)] → F_X6_find_s4 I_0 L_0 K4 v1 v2 v3 = some rv → W p l e ({ frames := 5, cells := 0, slots := 0, locals := 119 } : Room) s m args below meth c H locs 0 0 Q (F0 m 4 ls []) := by
    intro K4 hK4 v1 v2 v3 H locs ls hS hl hF
    unfold F_X6_find_s4 at hF
    refine lv_iload_n hx hb dX6_find_4 rfl (lv_at hl 3 rfl) ?_
    refine lv_sipush (v := (nI 1440)) hx hb dX6_find_5 (by decide) ?_
    refine lv_icmp_ge (tgt := 115) hx hb dX6_find_8 (by decide) (fun c_6 => ?_) (fun c_6 => ?_)
    · replace hF := ifp hF c_6
      refine lv_iconst (v := (-1)) hx hb dX6_find_115 (by decide) ?_
      refine lv_iload_n hx hb dX6_find_116 rfl (lv_at hl 2 rfl) ?_
      refine lv_isub hx hb dX6_find_117 ?_
      have e9_0 := Option.some.inj hF
      subst e9_0
      exact kret _ _ _ _ hS dX6_find_118
    · replace hF := ifn hF c_6
      refine lv_iload_n hx hb dX6_find_11 rfl (lv_at hl 3 rfl) ?_
      refine lv_sipush (v := (nI 144)) hx hb dX6_find_12 (by decide) ?_
      replace hF := nz_e hF
      obtain ⟨hne7, hF⟩ := hF
      refine lv_idiv hx hb dX6_find_15 hne7 ?_
      refine lv_istore (lv' := [(4, .int (v3 / (nI 144))), (0, .ref h_0), (1, .int v1), (2, .int v2), (3, .int v3)]) hx hb dX6_find_16 hl (by decide) rfl (fun ls hl => ?_)
      refine lv_iload_n hx hb dX6_find_18 rfl (lv_at hl 4 rfl) ?_
      refine lv_bipush (v := (nI 16)) hx hb dX6_find_19 (by decide) ?_
      replace hF := nz_e hF
      obtain ⟨hne8, hF⟩ := hF
      refine lv_idiv hx hb dX6_find_21 hne8 ?_
      refine lv_bipush (v := (nI 9)) hx hb dX6_find_22 (by decide) ?_
      replace hF := nz_e hF
      obtain ⟨hne9, hF⟩ := hF
      refine lv_irem hx hb dX6_find_24 hne9 ?_
      refine lv_istore (lv' := [(5, .int ((v3 / (nI 16)) - (v3 / (nI 16)) / (nI 9) * (nI 9))), (4, .int (v3 / (nI 144))), (0, .ref h_0), (1, .int v1), (2, .int v2), (3, .int v3)]) hx hb dX6_find_25 hl (by decide) rfl (fun ls hl => ?_)
      refine lv_iload_n hx hb dX6_find_27 rfl (lv_at hl 5 rfl) ?_
      refine lv_bipush (v := (nI 16)) hx hb dX6_find_28 (by decide) ?_
      replace hF := nz_e hF
      obtain ⟨hne10, hF⟩ := hF
      refine lv_irem hx hb dX6_find_30 hne10 ?_
      refine lv_iconst (v := (nI 1)) hx hb dX6_find_31 (by decide) ?_
      refine lv_iadd hx hb dX6_find_32 ?_
      refine lv_istore (lv' := [(6, .int ((v3 - v3 / (nI 16) * (nI 16)) + (nI 1))), (5, .int ((v3 / (nI 16)) - (v3 / (nI 16)) / (nI 9) * (nI 9))), (4, .int (v3 / (nI 144))), (0, .ref h_0), (1, .int v1), (2, .int v2), (3, .int v3)]) hx hb dX6_find_33 hl (by decide) rfl (fun ls hl => ?_)
      refine lv_iload hx hb dX6_find_35 (lv_at hl 2 rfl) ?_
      refine lv_bipush (v := (nI 8)) hx hb dX6_find_37 (by decide) ?_
      refine lv_icmp_eq (tgt := 64) hx hb dX6_find_39 (by decide) (fun c_11 => ?_) (fun c_11 => ?_)
      · replace hF := ifp hF c_11
        refine lv_iconst (v := (nI 0)) hx hb dX6_find_64 (by decide) ?_
        exact B65 K4 hK4 v1 v2 v3 (v3 / (nI 144)) ((v3 / (nI 16)) - (v3 / (nI 16)) / (nI 9) * (nI 9)) ((v3 - v3 / (nI 16) * (nI 16)) + (nI 1)) (nI 0) _ _ _ hS (lv_sub hl [3, 4, 5, 6, 2, 1, 0] rfl) hF
      · replace hF := ifn hF c_11
        refine lv_iload hx hb dX6_find_42 (lv_at hl 0 rfl) ?_
        refine lv_iconst (v := (nI 1)) hx hb dX6_find_44 (by decide) ?_
        refine lv_icmp_eq (tgt := 60) hx hb dX6_find_45 (by decide) (fun c_12 => ?_) (fun c_12 => ?_)
        · replace hF := ifp hF c_12
          refine lv_iconst (v := (nI 1)) hx hb dX6_find_60 (by decide) ?_
          refine lv_goto (tgt := 65) hx hb dX6_find_61 (by decide) ?_
          exact B65 K4 hK4 v1 v2 v3 (v3 / (nI 144)) ((v3 / (nI 16)) - (v3 / (nI 16)) / (nI 9) * (nI 9)) ((v3 - v3 / (nI 16) * (nI 16)) + (nI 1)) (nI 1) _ _ _ hS (lv_sub hl [3, 4, 5, 6, 2, 1, 0] rfl) hF
        · replace hF := ifn hF c_12
          refine lv_iload hx hb dX6_find_48 (lv_at hl 2 rfl) ?_
          refine lv_iconst (v := (nI 5)) hx hb dX6_find_50 (by decide) ?_
          refine lv_icmp_ge (tgt := 64) hx hb dX6_find_51 (by decide) (fun c_13 => ?_) (fun c_13 => ?_)
          · replace hF := ifp hF c_13
            refine lv_iconst (v := (nI 0)) hx hb dX6_find_64 (by decide) ?_
            exact B65 K4 hK4 v1 v2 v3 (v3 / (nI 144)) ((v3 / (nI 16)) - (v3 / (nI 16)) / (nI 9) * (nI 9)) ((v3 - v3 / (nI 16) * (nI 16)) + (nI 1)) (nI 0) _ _ _ hS (lv_sub hl [3, 4, 5, 6, 2, 1, 0] rfl) hF
          · replace hF := ifn hF c_13
            refine lv_iload hx hb dX6_find_54 (lv_at hl 1 rfl) ?_
            refine lv_iconst (v := (nI 5)) hx hb dX6_find_56 (by decide) ?_
            refine lv_icmp_ge (tgt := 64) hx hb dX6_find_57 (by decide) (fun c_14 => ?_) (fun c_14 => ?_)
            · replace hF := ifp hF c_14
              refine lv_iconst (v := (nI 0)) hx hb dX6_find_64 (by decide) ?_
              exact B65 K4 hK4 v1 v2 v3 (v3 / (nI 144)) ((v3 / (nI 16)) - (v3 / (nI 16)) / (nI 9) * (nI 9)) ((v3 - v3 / (nI 16) * (nI 16)) + (nI 1)) (nI 0) _ _ _ hS (lv_sub hl [3, 4, 5, 6, 2, 1, 0] rfl) hF
            · replace hF := ifn hF c_14
              refine lv_iconst (v := (nI 1)) hx hb dX6_find_60 (by decide) ?_
              refine lv_goto (tgt := 65) hx hb dX6_find_61 (by decide) ?_
              exact B65 K4 hK4 v1 v2 v3 (v3 / (nI 144)) ((v3 / (nI 16)) - (v3 / (nI 16)) / (nI 9) * (nI 9)) ((v3 - v3 / (nI 16) * (nI 16)) + (nI 1)) (nI 1) _ _ _ hS (lv_sub hl [3, 4, 5, 6, 2, 1, 0] rfl) hF
  have L4 : ∀  (n : Nat) (v1 : Int32) (v2 : Int32) (v3 : Int32) (H : Heap) (locs : List Loc) (ls : Array Slot), HS D A H0 [(h_0, oX6 h_0_of h_0_kept h_0_column h_0_size h_0_hidden h_0_cell h_0_home h_0_waste h_0_stock h_0_past h_0_start h_0_known h_0_sorted h_0_row h_0_best I_0), (h_0_of, eI cI 9 (I_0 1)), (h_0_kept, eI cI 9 (I_0 2)), (h_0_column, eJ cJ 5 (L_0 0)), (h_0_size, eI cI 5 (I_0 3)), (h_0_hidden, eI cI 5 (I_0 4)), (h_0_cell, eI cI 2 (I_0 5)), (h_0_home, eI cI 4 (I_0 6)), (h_0_waste, eI cI 8 (I_0 7)), (h_0_stock, eI cI 8 (I_0 8)), (h_0_past, eJ cJ 1616 (L_0 1)), (h_0_start, eJ cJ 8 (L_0 2)), (h_0_known, eJ cJ 3216 (L_0 3)), (h_0_sorted, eJ cJ 3216 (L_0 4)), (h_0_row, eI cI 16 (I_0 9)), (h_0_best, eJ cJ 8 (L_0 5))] H locs → lv_has ls 8 [(0, .ref h_0), (1, .int v1), (2, .int v2), (3, .int v3)] → F_X6_find_L4 I_0 L_0  n v1 v2 v3 = some rv → W p l e ({ frames := 5, cells := 0, slots := 0, locals := 119 } : Room) s m args below meth c H locs 0 0 Q (F0 m 4 ls []) := by
    intro  n
    induction n with
    | zero => intro v1 v2 v3 H locs ls hS hl hF; exact nomatch (show (none : Option (Int32)) = some _ from hF)
    | succ n ih => intro v1 v2 v3 H locs ls hS hl hF; exact S4  _ ih v1 v2 v3 H locs ls hS hl hF
  unfold F_X6_find at hF
  refine lv_iconst (v := (nI 0)) hx hb dX6_find_0 (by decide) ?_
  refine lv_istore_n (lv' := [(2, .int (nI 0)), (0, .ref h_0), (1, .int v1)]) hx hb dX6_find_1 rfl hl (by decide) rfl (fun ls hl => ?_)
  refine lv_iconst (v := (nI 0)) hx hb dX6_find_2 (by decide) ?_
  refine lv_istore_n (lv' := [(3, .int (nI 0)), (2, .int (nI 0)), (0, .ref h_0), (1, .int v1)]) hx hb dX6_find_3 rfl hl (by decide) rfl (fun ls hl => ?_)
  exact L4 FU v1 (nI 0) (nI 0) _ _ _ hS (lv_sub hl [2, 3, 1, 0] rfl) hF
set_option maxHeartbeats 4000000 in
set_option maxRecDepth 100000 in
theorem c_X6_moves (l : Launch) (D : va_G) (cI cJ : ClassId) (h_0 h_0_of h_0_kept h_0_column h_0_size h_0_hidden h_0_cell h_0_home h_0_waste h_0_stock h_0_past h_0_start h_0_known h_0_sorted h_0_row h_0_best : Nat) (L_0 : Nat → Nat → Int64) (I_0 : Nat → Nat → Int32) (rv : Int32) (r_I_0 : Nat → Nat → Int32) (hF : F_X6_moves L_0 I_0 = some (rv, r_I_0)) : CtI l D [(cI, .int), (cJ, .long)] yX6_moves wtX6_moves ({ frames := 6, cells := 0, slots := 0, locals := 146 } : Room) [.ref h_0] [(h_0, oX6 h_0_of h_0_kept h_0_column h_0_size h_0_hidden h_0_cell h_0_home h_0_waste h_0_stock h_0_past h_0_start h_0_known h_0_sorted h_0_row h_0_best I_0), (h_0_of, eI cI 9 (I_0 1)), (h_0_kept, eI cI 9 (I_0 2)), (h_0_column, eJ cJ 5 (L_0 0)), (h_0_size, eI cI 5 (I_0 3)), (h_0_hidden, eI cI 5 (I_0 4)), (h_0_cell, eI cI 2 (I_0 5)), (h_0_home, eI cI 4 (I_0 6)), (h_0_waste, eI cI 8 (I_0 7)), (h_0_stock, eI cI 8 (I_0 8)), (h_0_past, eJ cJ 1616 (L_0 1)), (h_0_start, eJ cJ 8 (L_0 2)), (h_0_known, eJ cJ 3216 (L_0 3)), (h_0_sorted, eJ cJ 3216 (L_0 4)), (h_0_row, eI cI 16 (I_0 9)), (h_0_best, eJ cJ 8 (L_0 5))] [(h_0, oX6 h_0_of h_0_kept h_0_column h_0_size h_0_hidden h_0_cell h_0_home h_0_waste h_0_stock h_0_past h_0_start h_0_known h_0_sorted h_0_row h_0_best r_I_0), (h_0_of, eI cI 9 (r_I_0 1)), (h_0_kept, eI cI 9 (r_I_0 2)), (h_0_column, eJ cJ 5 (L_0 0)), (h_0_size, eI cI 5 (r_I_0 3)), (h_0_hidden, eI cI 5 (r_I_0 4)), (h_0_cell, eI cI 2 (r_I_0 5)), (h_0_home, eI cI 4 (r_I_0 6)), (h_0_waste, eI cI 8 (r_I_0 7)), (h_0_stock, eI cI 8 (r_I_0 8)), (h_0_past, eJ cJ 1616 (L_0 1)), (h_0_start, eJ cJ 8 (L_0 2)), (h_0_known, eJ cJ 3216 (L_0 3)), (h_0_sorted, eJ cJ 3216 (L_0 4)), (h_0_row, eI cI 16 (r_I_0 9)), (h_0_best, eJ cJ 8 (L_0 5))] rv := by
  refine CtI.of (cc := cX6_moves) (maxL := 1) (by decide) rfl (Nat.le_of_ble_eq_true rfl) ?_
  intro p e s m args below meth c A H0 Q ls X hS hl kret
  have hCF := X.1
  obtain ⟨⟨hx, hb, hml, hown, hts⟩, hK, hA⟩ := X
  have hl : lv_has ls 1 [(0, .ref h_0)] := hl
  have q0 := hts (.fieldLink RX6 83 "PatienceryModel" "thrown" "I") (List.mem_cons_of_mem _ mw_241)
  have inX6 : ∀ w ∈ u_ws RX6 TX6 32, w ∈ wtX6_moves := fun w h => List.mem_cons_of_mem _ (inlX6 w h)
  unfold F_X6_moves at hF
  refine lv_aload_n hx hb dX6_moves_0 rfl (lv_at hl 0 rfl) ?_
  refine lv_iconst (v := (nI 0)) hx hb dX6_moves_1 (by decide) ?_
  replace hF := bnd_e hF
  obtain ⟨I_0u1, eI_0u1, hF⟩ := hF
  refine r_put (w2 := [(h_0, oX6 h_0_of h_0_kept h_0_column h_0_size h_0_hidden h_0_cell h_0_home h_0_waste h_0_stock h_0_past h_0_start h_0_known h_0_sorted h_0_row h_0_best I_0u1), (h_0_of, eI cI 9 (I_0u1 1)), (h_0_kept, eI cI 9 (I_0u1 2)), (h_0_column, eJ cJ 5 (L_0 0)), (h_0_size, eI cI 5 (I_0u1 3)), (h_0_hidden, eI cI 5 (I_0u1 4)), (h_0_cell, eI cI 2 (I_0u1 5)), (h_0_home, eI cI 4 (I_0u1 6)), (h_0_waste, eI cI 8 (I_0u1 7)), (h_0_stock, eI cI 8 (I_0u1 8)), (h_0_past, eJ cJ 1616 (L_0 1)), (h_0_start, eJ cJ 8 (L_0 2)), (h_0_known, eJ cJ 3216 (L_0 3)), (h_0_sorted, eJ cJ 3216 (L_0 4)), (h_0_row, eI cI 16 (I_0u1 9)), (h_0_best, eJ cJ 8 (L_0 5))]) hx hb hts inX6 tyX6 tyX6_ok nmX6 hown hK hS 0 0 rfl rfl (by decide) q0 rfl rfl rfl (Nat.le_of_ble_eq_true rfl) dX6_moves_2 (by rw [eI_0u1]; rfl) (fun H locs hS => ?_)
  refine lv_iconst (v := (-1)) hx hb dX6_moves_5 (by decide) ?_
  refine lv_aload_n hx hb dX6_moves_6 rfl (lv_at hl 0 rfl) ?_
  refine lv_iconst (v := (-1)) hx hb dX6_moves_7 (by decide) ?_
  replace hF := cal1_e hF
  obtain ⟨x2, hc3, hF⟩ := hF
  refine kV_i (As := [.int (-1)]) (rest := [.int (-1)]) (wr := []) (w2 := [(h_0, oX6 h_0_of h_0_kept h_0_column h_0_size h_0_hidden h_0_cell h_0_home h_0_waste h_0_stock h_0_past h_0_start h_0_known h_0_sorted h_0_row h_0_best I_0u1), (h_0_of, eI cI 9 (I_0u1 1)), (h_0_kept, eI cI 9 (I_0u1 2)), (h_0_column, eJ cJ 5 (L_0 0)), (h_0_size, eI cI 5 (I_0u1 3)), (h_0_hidden, eI cI 5 (I_0u1 4)), (h_0_cell, eI cI 2 (I_0u1 5)), (h_0_home, eI cI 4 (I_0u1 6)), (h_0_waste, eI cI 8 (I_0u1 7)), (h_0_stock, eI cI 8 (I_0u1 8)), (h_0_past, eJ cJ 1616 (L_0 1)), (h_0_start, eJ cJ 8 (L_0 2)), (h_0_known, eJ cJ 3216 (L_0 3)), (h_0_sorted, eJ cJ 3216 (L_0 4)), (h_0_row, eI cI 16 (I_0u1 9)), (h_0_best, eJ cJ 8 (L_0 5))]) hCF hK (c_X6_find l D cI cJ h_0 h_0_of h_0_kept h_0_column h_0_size h_0_hidden h_0_cell h_0_home h_0_waste h_0_stock h_0_past h_0_start h_0_known h_0_sorted h_0_row h_0_best I_0u1 L_0 (-1) x2 hc3) (cwV 1 hts (TBL_V mw_565 mw_566 mw_567 mw_5 mw_568) rfl rfl rfl pmX6_find ⟨Nat.le_of_ble_eq_true rfl, Nat.le_of_ble_eq_true rfl⟩) hS hA [0, 1, 2, 3, 4, 5, 6, 7, 8, 9, 10, 11, 12, 13, 14, 15] [] rfl rfl rfl rfl (by decide) rfl rfl rfl hl.1 rfl (Nat.le_of_ble_eq_true rfl) ⟨Nat.zero_le _, Nat.zero_le _⟩ dX6_moves_8 rfl (fun H locs hS => ?_)
  refine lv_isub hx hb dX6_moves_11 ?_
  have e9_0 := Option.some.inj hF
  obtain ⟨f9_0, e9_1⟩ := Prod.mk.inj e9_0
  subst f9_0
  subst e9_1
  exact kret _ _ _ _ hS dX6_moves_12
set_option maxHeartbeats 4000000 in
set_option maxRecDepth 100000 in
theorem c_X6_moveAt (l : Launch) (D : va_G) (cI cJ : ClassId) (h_0 h_0_of h_0_kept h_0_column h_0_size h_0_hidden h_0_cell h_0_home h_0_waste h_0_stock h_0_past h_0_start h_0_known h_0_sorted h_0_row h_0_best : Nat) (L_0 : Nat → Nat → Int64) (I_0 : Nat → Nat → Int32) (v1 : Int32) (rv : Int32) (r_I_0 : Nat → Nat → Int32) (hF : F_X6_moveAt L_0 I_0 v1 = some (rv, r_I_0)) : CtI l D [(cI, .int), (cJ, .long)] yX6_moveAt wtX6_moveAt ({ frames := 6, cells := 0, slots := 0, locals := 146 } : Room) [.ref h_0, .int v1] [(h_0, oX6 h_0_of h_0_kept h_0_column h_0_size h_0_hidden h_0_cell h_0_home h_0_waste h_0_stock h_0_past h_0_start h_0_known h_0_sorted h_0_row h_0_best I_0), (h_0_of, eI cI 9 (I_0 1)), (h_0_kept, eI cI 9 (I_0 2)), (h_0_column, eJ cJ 5 (L_0 0)), (h_0_size, eI cI 5 (I_0 3)), (h_0_hidden, eI cI 5 (I_0 4)), (h_0_cell, eI cI 2 (I_0 5)), (h_0_home, eI cI 4 (I_0 6)), (h_0_waste, eI cI 8 (I_0 7)), (h_0_stock, eI cI 8 (I_0 8)), (h_0_past, eJ cJ 1616 (L_0 1)), (h_0_start, eJ cJ 8 (L_0 2)), (h_0_known, eJ cJ 3216 (L_0 3)), (h_0_sorted, eJ cJ 3216 (L_0 4)), (h_0_row, eI cI 16 (I_0 9)), (h_0_best, eJ cJ 8 (L_0 5))] [(h_0, oX6 h_0_of h_0_kept h_0_column h_0_size h_0_hidden h_0_cell h_0_home h_0_waste h_0_stock h_0_past h_0_start h_0_known h_0_sorted h_0_row h_0_best r_I_0), (h_0_of, eI cI 9 (r_I_0 1)), (h_0_kept, eI cI 9 (r_I_0 2)), (h_0_column, eJ cJ 5 (L_0 0)), (h_0_size, eI cI 5 (r_I_0 3)), (h_0_hidden, eI cI 5 (r_I_0 4)), (h_0_cell, eI cI 2 (r_I_0 5)), (h_0_home, eI cI 4 (r_I_0 6)), (h_0_waste, eI cI 8 (r_I_0 7)), (h_0_stock, eI cI 8 (r_I_0 8)), (h_0_past, eJ cJ 1616 (L_0 1)), (h_0_start, eJ cJ 8 (L_0 2)), (h_0_known, eJ cJ 3216 (L_0 3)), (h_0_sorted, eJ cJ 3216 (L_0 4)), (h_0_row, eI cI 16 (r_I_0 9)), (h_0_best, eJ cJ 8 (L_0 5))] rv := by
  refine CtI.of (cc := cX6_moveAt) (maxL := 3) (by decide) rfl (Nat.le_of_ble_eq_true rfl) ?_
  intro p e s m args below meth c A H0 Q ls X hS hl kret
  have hCF := X.1
  obtain ⟨⟨hx, hb, hml, hown, hts⟩, hK, hA⟩ := X
  have hl : lv_has ls 3 [(0, .ref h_0), (1, .int v1)] := hl
  have B10 : ∀ (I_0 : Nat → Nat → Int32) (v1 : Int32) (s1 : Int32) (H : Heap) (locs : List Loc) (ls : Array Slot), HS D A H0 [(h_0, oX6 h_0_of h_0_kept h_0_column h_0_size h_0_hidden h_0_cell h_0_home h_0_waste h_0_stock h_0_past h_0_start h_0_known h_0_sorted h_0_row h_0_best I_0), (h_0_of, eI cI 9 (I_0 1)), (h_0_kept, eI cI 9 (I_0 2)), (h_0_column, eJ cJ 5 (L_0 0)), (h_0_size, eI cI 5 (I_0 3)), (h_0_hidden, eI cI 5 (I_0 4)), (h_0_cell, eI cI 2 (I_0 5)), (h_0_home, eI cI 4 (I_0 6)), (h_0_waste, eI cI 8 (I_0 7)), (h_0_stock, eI cI 8 (I_0 8)), (h_0_past, eJ cJ 1616 (L_0 1)), (h_0_start, eJ cJ 8 (L_0 2)), (h_0_known, eJ cJ 3216 (L_0 3)), (h_0_sorted, eJ cJ 3216 (L_0 4)), (h_0_row, eI cI 16 (I_0 9)), (h_0_best, eJ cJ 8 (L_0 5))] H locs → lv_has ls 3 [(0, .ref h_0), (1, .int v1)] → F_X6_moveAt_b10 L_0  I_0 v1 s1 = some (rv, r_I_0) → W p l e ({ frames := 6, cells := 0, slots := 0, locals := 146 } : Room) s m args below meth c H locs 0 0 Q (F0 m 10 ls [.int s1, .ref h_0]) := by
    intro I_0 v1 s1 H locs ls hS hl hF
    unfold F_X6_moveAt_b10 at hF
    replace hF := cal2_e hF
    obtain ⟨x1, I_0u2, hc3, hF⟩ := hF
    refine kV_i (As := [.int s1]) (rest := []) (wr := []) (w2 := [(h_0, oX6 h_0_of h_0_kept h_0_column h_0_size h_0_hidden h_0_cell h_0_home h_0_waste h_0_stock h_0_past h_0_start h_0_known h_0_sorted h_0_row h_0_best I_0u2), (h_0_of, eI cI 9 (I_0u2 1)), (h_0_kept, eI cI 9 (I_0u2 2)), (h_0_column, eJ cJ 5 (L_0 0)), (h_0_size, eI cI 5 (I_0u2 3)), (h_0_hidden, eI cI 5 (I_0u2 4)), (h_0_cell, eI cI 2 (I_0u2 5)), (h_0_home, eI cI 4 (I_0u2 6)), (h_0_waste, eI cI 8 (I_0u2 7)), (h_0_stock, eI cI 8 (I_0u2 8)), (h_0_past, eJ cJ 1616 (L_0 1)), (h_0_start, eJ cJ 8 (L_0 2)), (h_0_known, eJ cJ 3216 (L_0 3)), (h_0_sorted, eJ cJ 3216 (L_0 4)), (h_0_row, eI cI 16 (I_0u2 9)), (h_0_best, eJ cJ 8 (L_0 5))]) hCF hK (c_X6_goesWell l D cI cJ h_0 h_0_of h_0_kept h_0_column h_0_size h_0_hidden h_0_cell h_0_home h_0_waste h_0_stock h_0_past h_0_start h_0_known h_0_sorted h_0_row h_0_best L_0 I_0 s1 x1 I_0u2 hc3) (cwV 1 hts (TBL_V mw_237 mw_238 mw_239 mw_5 mw_240) rfl rfl rfl pmX6_goesWell ⟨Nat.le_of_ble_eq_true rfl, Nat.le_of_ble_eq_true rfl⟩) hS hA [0, 1, 2, 3, 4, 5, 6, 7, 8, 9, 10, 11, 12, 13, 14, 15] [] rfl rfl rfl rfl (by decide) rfl rfl rfl hl.1 rfl (Nat.le_of_ble_eq_true rfl) ⟨Nat.zero_le _, Nat.zero_le _⟩ dX6_moveAt_10 rfl (fun H locs hS => ?_)
    refine lv_if_ne (tgt := 18) hx hb dX6_moveAt_13 (by decide) (fun c_4 => ?_) (fun c_4 => ?_)
    · replace hF := ifn hF c_4
      refine lv_aload_n hx hb dX6_moveAt_18 rfl (lv_at hl 0 rfl) ?_
      refine lv_iload_n hx hb dX6_moveAt_19 rfl (lv_at hl 1 rfl) ?_
      replace hF := cal1_e hF
      obtain ⟨x5, hc6, hF⟩ := hF
      refine kV_i (As := [.int v1]) (rest := []) (wr := []) (w2 := [(h_0, oX6 h_0_of h_0_kept h_0_column h_0_size h_0_hidden h_0_cell h_0_home h_0_waste h_0_stock h_0_past h_0_start h_0_known h_0_sorted h_0_row h_0_best I_0u2), (h_0_of, eI cI 9 (I_0u2 1)), (h_0_kept, eI cI 9 (I_0u2 2)), (h_0_column, eJ cJ 5 (L_0 0)), (h_0_size, eI cI 5 (I_0u2 3)), (h_0_hidden, eI cI 5 (I_0u2 4)), (h_0_cell, eI cI 2 (I_0u2 5)), (h_0_home, eI cI 4 (I_0u2 6)), (h_0_waste, eI cI 8 (I_0u2 7)), (h_0_stock, eI cI 8 (I_0u2 8)), (h_0_past, eJ cJ 1616 (L_0 1)), (h_0_start, eJ cJ 8 (L_0 2)), (h_0_known, eJ cJ 3216 (L_0 3)), (h_0_sorted, eJ cJ 3216 (L_0 4)), (h_0_row, eI cI 16 (I_0u2 9)), (h_0_best, eJ cJ 8 (L_0 5))]) hCF hK (c_X6_find l D cI cJ h_0 h_0_of h_0_kept h_0_column h_0_size h_0_hidden h_0_cell h_0_home h_0_waste h_0_stock h_0_past h_0_start h_0_known h_0_sorted h_0_row h_0_best I_0u2 L_0 v1 x5 hc6) (cwV 1 hts (TBL_V mw_565 mw_566 mw_567 mw_5 mw_568) rfl rfl rfl pmX6_find ⟨Nat.le_of_ble_eq_true rfl, Nat.le_of_ble_eq_true rfl⟩) hS hA [0, 1, 2, 3, 4, 5, 6, 7, 8, 9, 10, 11, 12, 13, 14, 15] [] rfl rfl rfl rfl (by decide) rfl rfl rfl hl.1 rfl (Nat.le_of_ble_eq_true rfl) ⟨Nat.zero_le _, Nat.zero_le _⟩ dX6_moveAt_20 rfl (fun H locs hS => ?_)
      refine lv_istore_n (lv' := [(2, .int x5), (0, .ref h_0), (1, .int v1)]) hx hb dX6_moveAt_23 rfl hl (by decide) rfl (fun ls hl => ?_)
      refine lv_iload_n hx hb dX6_moveAt_24 rfl (lv_at hl 0 rfl) ?_
      refine lv_if_ge (tgt := 32) hx hb dX6_moveAt_25 (by decide) (fun c_7 => ?_) (fun c_7 => ?_)
      · replace hF := ifp hF c_7
        refine lv_iload_n hx hb dX6_moveAt_32 rfl (lv_at hl 0 rfl) ?_
        have e9_0 := Option.some.inj hF
        obtain ⟨f9_0, e9_1⟩ := Prod.mk.inj e9_0
        subst f9_0
        subst e9_1
        exact kret _ _ _ _ hS dX6_moveAt_33
      · replace hF := ifn hF c_7
        refine lv_iconst (v := (-1)) hx hb dX6_moveAt_28 (by decide) ?_
        refine lv_goto (tgt := 33) hx hb dX6_moveAt_29 (by decide) ?_
        have e9_0 := Option.some.inj hF
        obtain ⟨f9_0, e9_1⟩ := Prod.mk.inj e9_0
        subst f9_0
        subst e9_1
        exact kret _ _ _ _ hS dX6_moveAt_33
    · replace hF := ifp hF c_4
      refine lv_iconst (v := (nI 0)) hx hb dX6_moveAt_16 (by decide) ?_
      have e9_0 := Option.some.inj hF
      obtain ⟨f9_0, e9_1⟩ := Prod.mk.inj e9_0
      subst f9_0
      subst e9_1
      exact kret _ _ _ _ hS dX6_moveAt_17
  unfold F_X6_moveAt at hF
  refine lv_aload_n hx hb dX6_moveAt_0 rfl (lv_at hl 0 rfl) ?_
  refine lv_iload_n hx hb dX6_moveAt_1 rfl (lv_at hl 1 rfl) ?_
  refine lv_if_lt (tgt := 9) hx hb dX6_moveAt_2 (by decide) (fun c_8 => ?_) (fun c_8 => ?_)
  · replace hF := ifp hF c_8
    refine lv_iconst (v := (nI 1)) hx hb dX6_moveAt_9 (by decide) ?_
    exact B10 I_0 v1 (nI 1) _ _ _ hS (lv_sub hl [0, 1] rfl) hF
  · replace hF := ifn hF c_8
    refine lv_iconst (v := (nI 0)) hx hb dX6_moveAt_5 (by decide) ?_
    refine lv_goto (tgt := 10) hx hb dX6_moveAt_6 (by decide) ?_
    exact B10 I_0 v1 (nI 0) _ _ _ hS (lv_sub hl [0, 1] rfl) hF
set_option maxHeartbeats 4000000 in
set_option maxRecDepth 100000 in
theorem c_X6_card (l : Launch) (D : va_G) (cI cJ : ClassId) (h_0 h_0_of h_0_kept h_0_column h_0_size h_0_hidden h_0_cell h_0_home h_0_waste h_0_stock h_0_past h_0_start h_0_known h_0_sorted h_0_row h_0_best : Nat) (L_0 : Nat → Nat → Int64) (I_0 : Nat → Nat → Int32) (v1 : Int32) (v2 : Int32) (rv : Int32) (r_I_0 : Nat → Nat → Int32) (hF : F_X6_card L_0 I_0 v1 v2 = some (rv, r_I_0)) : CtI l D [(cI, .int), (cJ, .long)] yX6_card wtX6_card ({ frames := 1, cells := 0, slots := 0, locals := 22 } : Room) [.ref h_0, .int v1, .int v2] [(h_0, oX6 h_0_of h_0_kept h_0_column h_0_size h_0_hidden h_0_cell h_0_home h_0_waste h_0_stock h_0_past h_0_start h_0_known h_0_sorted h_0_row h_0_best I_0), (h_0_of, eI cI 9 (I_0 1)), (h_0_kept, eI cI 9 (I_0 2)), (h_0_column, eJ cJ 5 (L_0 0)), (h_0_size, eI cI 5 (I_0 3)), (h_0_hidden, eI cI 5 (I_0 4)), (h_0_cell, eI cI 2 (I_0 5)), (h_0_home, eI cI 4 (I_0 6)), (h_0_waste, eI cI 8 (I_0 7)), (h_0_stock, eI cI 8 (I_0 8)), (h_0_past, eJ cJ 1616 (L_0 1)), (h_0_start, eJ cJ 8 (L_0 2)), (h_0_known, eJ cJ 3216 (L_0 3)), (h_0_sorted, eJ cJ 3216 (L_0 4)), (h_0_row, eI cI 16 (I_0 9)), (h_0_best, eJ cJ 8 (L_0 5))] [(h_0, oX6 h_0_of h_0_kept h_0_column h_0_size h_0_hidden h_0_cell h_0_home h_0_waste h_0_stock h_0_past h_0_start h_0_known h_0_sorted h_0_row h_0_best r_I_0), (h_0_of, eI cI 9 (r_I_0 1)), (h_0_kept, eI cI 9 (r_I_0 2)), (h_0_column, eJ cJ 5 (L_0 0)), (h_0_size, eI cI 5 (r_I_0 3)), (h_0_hidden, eI cI 5 (r_I_0 4)), (h_0_cell, eI cI 2 (r_I_0 5)), (h_0_home, eI cI 4 (r_I_0 6)), (h_0_waste, eI cI 8 (r_I_0 7)), (h_0_stock, eI cI 8 (r_I_0 8)), (h_0_past, eJ cJ 1616 (L_0 1)), (h_0_start, eJ cJ 8 (L_0 2)), (h_0_known, eJ cJ 3216 (L_0 3)), (h_0_sorted, eJ cJ 3216 (L_0 4)), (h_0_row, eI cI 16 (r_I_0 9)), (h_0_best, eJ cJ 8 (L_0 5))] rv := by
  refine CtI.of (cc := cX6_card) (maxL := 4) (by decide) rfl (Nat.le_of_ble_eq_true rfl) ?_
  intro p e s m args below meth c A H0 Q ls X hS hl kret
  have hCF := X.1
  obtain ⟨⟨hx, hb, hml, hown, hts⟩, hK, hA⟩ := X
  have hl : lv_has ls 4 [(0, .ref h_0), (1, .int v1), (2, .int v2)] := hl
  have q0 := hts (.fieldLink RX6 51 "PatienceryModel" "stock" "[I") (List.mem_cons_of_mem _ mw_169)
  have inX6 : ∀ w ∈ u_ws RX6 TX6 32, w ∈ wtX6_card := fun w h => List.mem_cons_of_mem _ (inlX6 w h)
  have q2 := hts (.fieldLink RX6 48 "PatienceryModel" "waste" "[I") (List.mem_cons_of_mem _ mw_168)
  have q3 := hts (.fieldLink RX6 120 "PatienceryModel" "left" "I") (List.mem_cons_of_mem _ mw_190)
  have q4 := hts (.fieldLink RX6 117 "PatienceryModel" "wasted" "I") (List.mem_cons_of_mem _ mw_195)
  have q5 := hts (.fieldLink RX6 25 "PatienceryModel" "of" "[I") (List.mem_cons_of_mem _ mw_161)
  have q6 := hts (.fieldLink RX6 45 "PatienceryModel" "home" "[I") (List.mem_cons_of_mem _ mw_167)
  have q7 := hts (.fieldLink RX6 42 "PatienceryModel" "cell" "[I") (List.mem_cons_of_mem _ mw_166)
  have q8 := hts (.fieldLink RX6 36 "PatienceryModel" "size" "[I") (List.mem_cons_of_mem _ mw_164)
  have q9 := hts (.fieldLink RX6 39 "PatienceryModel" "hidden" "[I") (List.mem_cons_of_mem _ mw_165)
  have B156 : ∀ (I_0 : Nat → Nat → Int32) (v1 : Int32) (v2 : Int32) (s0 : Int32) (H : Heap) (locs : List Loc) (ls : Array Slot), HS D A H0 [(h_0, oX6 h_0_of h_0_kept h_0_column h_0_size h_0_hidden h_0_cell h_0_home h_0_waste h_0_stock h_0_past h_0_start h_0_known h_0_sorted h_0_row h_0_best I_0), (h_0_of, eI cI 9 (I_0 1)), (h_0_kept, eI cI 9 (I_0 2)), (h_0_column, eJ cJ 5 (L_0 0)), (h_0_size, eI cI 5 (I_0 3)), (h_0_hidden, eI cI 5 (I_0 4)), (h_0_cell, eI cI 2 (I_0 5)), (h_0_home, eI cI 4 (I_0 6)), (h_0_waste, eI cI 8 (I_0 7)), (h_0_stock, eI cI 8 (I_0 8)), (h_0_past, eJ cJ 1616 (L_0 1)), (h_0_start, eJ cJ 8 (L_0 2)), (h_0_known, eJ cJ 3216 (L_0 3)), (h_0_sorted, eJ cJ 3216 (L_0 4)), (h_0_row, eI cI 16 (I_0 9)), (h_0_best, eJ cJ 8 (L_0 5))] H locs → lv_has ls 4 [(0, .ref h_0), (1, .int v1), (2, .int v2)] → F_X6_card_b156 L_0  I_0 v1 v2 s0 = some (rv, r_I_0) → W p l e ({ frames := 1, cells := 0, slots := 0, locals := 22 } : Room) s m args below meth c H locs 0 0 Q (F0 m 156 ls [.int s0]) := by
    intro I_0 v1 v2 s0 H locs ls hS hl hF
    unfold F_X6_card_b156 at hF
    refine lv_istore_n (lv' := [(3, .int s0), (0, .ref h_0), (1, .int v1), (2, .int v2)]) hx hb dX6_card_156 rfl hl (by decide) rfl (fun ls hl => ?_)
    refine lv_iload_n hx hb dX6_card_157 rfl (lv_at hl 3 rfl) ?_
    refine lv_iload_n hx hb dX6_card_158 rfl (lv_at hl 0 rfl) ?_
    refine lv_icmp_lt (tgt := 166) hx hb dX6_card_159 (by decide) (fun c_1 => ?_) (fun c_1 => ?_)
    · replace hF := ifp hF c_1
      refine lv_iload_n hx hb dX6_card_166 rfl (lv_at hl 2 rfl) ?_
      refine lv_bipush (v := (nI 7)) hx hb dX6_card_167 (by decide) ?_
      refine lv_icmp_ne (tgt := 185) hx hb dX6_card_169 (by decide) (fun c_2 => ?_) (fun c_2 => ?_)
      · replace hF := ifn hF c_2
        refine lv_aload_n hx hb dX6_card_185 rfl (lv_at hl 1 rfl) ?_
        refine r_get hx hb hts inX6 hown hK hS 0 22 rfl rfl (by decide) q0 rfl dX6_card_186 ?_
        refine lv_iload_n hx hb dX6_card_189 rfl (lv_at hl 0 rfl) ?_
        refine lv_iconst (v := (nI 1)) hx hb dX6_card_190 (by decide) ?_
        refine lv_isub hx hb dX6_card_191 ?_
        refine lv_iload_n hx hb dX6_card_192 rfl (lv_at hl 3 rfl) ?_
        refine lv_isub hx hb dX6_card_193 ?_
        replace hF := rdA_e hF
        obtain ⟨hi4, x3, ex3, hF⟩ := hF
        refine r_iald hx hb hK hS 9 rfl rfl hi4 dX6_card_194 ex3 ?_
        have e9_0 := Option.some.inj hF
        obtain ⟨f9_0, e9_1⟩ := Prod.mk.inj e9_0
        subst f9_0
        subst e9_1
        exact kret _ _ _ _ hS dX6_card_195
      · replace hF := ifp hF c_2
        refine lv_aload_n hx hb dX6_card_172 rfl (lv_at hl 1 rfl) ?_
        refine r_get hx hb hts inX6 hown hK hS 0 20 rfl rfl (by decide) q2 rfl dX6_card_173 ?_
        refine lv_iload_n hx hb dX6_card_176 rfl (lv_at hl 0 rfl) ?_
        refine lv_iconst (v := (nI 1)) hx hb dX6_card_177 (by decide) ?_
        refine lv_isub hx hb dX6_card_178 ?_
        refine lv_iload_n hx hb dX6_card_179 rfl (lv_at hl 3 rfl) ?_
        refine lv_isub hx hb dX6_card_180 ?_
        replace hF := rdA_e hF
        obtain ⟨hi6, x5, ex5, hF⟩ := hF
        refine r_iald hx hb hK hS 8 rfl rfl hi6 dX6_card_181 ex5 ?_
        refine lv_goto (tgt := 195) hx hb dX6_card_182 (by decide) ?_
        have e9_0 := Option.some.inj hF
        obtain ⟨f9_0, e9_1⟩ := Prod.mk.inj e9_0
        subst f9_0
        subst e9_1
        exact kret _ _ _ _ hS dX6_card_195
    · replace hF := ifn hF c_1
      refine lv_iconst (v := (-1)) hx hb dX6_card_162 (by decide) ?_
      refine lv_goto (tgt := 195) hx hb dX6_card_163 (by decide) ?_
      have e9_0 := Option.some.inj hF
      obtain ⟨f9_0, e9_1⟩ := Prod.mk.inj e9_0
      subst f9_0
      subst e9_1
      exact kret _ _ _ _ hS dX6_card_195
  have B20 : ∀ (I_0 : Nat → Nat → Int32) (v1 : Int32) (v2 : Int32) (s1 : Int32) (H : Heap) (locs : List Loc) (ls : Array Slot), HS D A H0 [(h_0, oX6 h_0_of h_0_kept h_0_column h_0_size h_0_hidden h_0_cell h_0_home h_0_waste h_0_stock h_0_past h_0_start h_0_known h_0_sorted h_0_row h_0_best I_0), (h_0_of, eI cI 9 (I_0 1)), (h_0_kept, eI cI 9 (I_0 2)), (h_0_column, eJ cJ 5 (L_0 0)), (h_0_size, eI cI 5 (I_0 3)), (h_0_hidden, eI cI 5 (I_0 4)), (h_0_cell, eI cI 2 (I_0 5)), (h_0_home, eI cI 4 (I_0 6)), (h_0_waste, eI cI 8 (I_0 7)), (h_0_stock, eI cI 8 (I_0 8)), (h_0_past, eJ cJ 1616 (L_0 1)), (h_0_start, eJ cJ 8 (L_0 2)), (h_0_known, eJ cJ 3216 (L_0 3)), (h_0_sorted, eJ cJ 3216 (L_0 4)), (h_0_row, eI cI 16 (I_0 9)), (h_0_best, eJ cJ 8 (L_0 5))] H locs → lv_has ls 4 [(0, .ref h_0), (1, .int v1), (2, .int v2)] → F_X6_card_b20 L_0  I_0 v1 v2 s1 = some (rv, r_I_0) → W p l e ({ frames := 1, cells := 0, slots := 0, locals := 22 } : Room) s m args below meth c H locs 0 0 Q (F0 m 20 ls [.int s1, .ref h_0]) := by
    intro I_0 v1 v2 s1 H locs ls hS hl hF
    unfold F_X6_card_b20 at hF
    replace hF := cal2_e hF
    obtain ⟨x7, I_0u8, hc9, hF⟩ := hF
    refine kV_i (As := [.int s1]) (rest := []) (wr := []) (w2 := [(h_0, oX6 h_0_of h_0_kept h_0_column h_0_size h_0_hidden h_0_cell h_0_home h_0_waste h_0_stock h_0_past h_0_start h_0_known h_0_sorted h_0_row h_0_best I_0u8), (h_0_of, eI cI 9 (I_0u8 1)), (h_0_kept, eI cI 9 (I_0u8 2)), (h_0_column, eJ cJ 5 (L_0 0)), (h_0_size, eI cI 5 (I_0u8 3)), (h_0_hidden, eI cI 5 (I_0u8 4)), (h_0_cell, eI cI 2 (I_0u8 5)), (h_0_home, eI cI 4 (I_0u8 6)), (h_0_waste, eI cI 8 (I_0u8 7)), (h_0_stock, eI cI 8 (I_0u8 8)), (h_0_past, eJ cJ 1616 (L_0 1)), (h_0_start, eJ cJ 8 (L_0 2)), (h_0_known, eJ cJ 3216 (L_0 3)), (h_0_sorted, eJ cJ 3216 (L_0 4)), (h_0_row, eI cI 16 (I_0u8 9)), (h_0_best, eJ cJ 8 (L_0 5))]) hCF hK (c_X6_goesWell l D cI cJ h_0 h_0_of h_0_kept h_0_column h_0_size h_0_hidden h_0_cell h_0_home h_0_waste h_0_stock h_0_past h_0_start h_0_known h_0_sorted h_0_row h_0_best L_0 I_0 s1 x7 I_0u8 hc9) (cwV 1 hts (TBL_V mw_237 mw_238 mw_239 mw_5 mw_240) rfl rfl rfl pmX6_goesWell ⟨Nat.le_of_ble_eq_true rfl, Nat.le_of_ble_eq_true rfl⟩) hS hA [0, 1, 2, 3, 4, 5, 6, 7, 8, 9, 10, 11, 12, 13, 14, 15] [] rfl rfl rfl rfl (by decide) rfl rfl rfl hl.1 rfl (Nat.le_of_ble_eq_true rfl) ⟨Nat.zero_le _, Nat.zero_le _⟩ dX6_card_20 rfl (fun H locs hS => ?_)
    refine lv_if_ne (tgt := 28) hx hb dX6_card_23 (by decide) (fun c_10 => ?_) (fun c_10 => ?_)
    · replace hF := ifn hF c_10
      refine lv_iload_n hx hb dX6_card_28 rfl (lv_at hl 1 rfl) ?_
      refine lv_iconst (v := (nI 5)) hx hb dX6_card_29 (by decide) ?_
      refine lv_icmp_ge (tgt := 69) hx hb dX6_card_30 (by decide) (fun c_11 => ?_) (fun c_11 => ?_)
      · replace hF := ifp hF c_11
        refine lv_iload_n hx hb dX6_card_69 rfl (lv_at hl 1 rfl) ?_
        refine lv_bipush (v := (nI 7)) hx hb dX6_card_70 (by decide) ?_
        refine lv_icmp_ge (tgt := 92) hx hb dX6_card_72 (by decide) (fun c_12 => ?_) (fun c_12 => ?_)
        · replace hF := ifp hF c_12
          refine lv_iload_n hx hb dX6_card_92 rfl (lv_at hl 1 rfl) ?_
          refine lv_bipush (v := (nI 8)) hx hb dX6_card_93 (by decide) ?_
          refine lv_icmp_ne (tgt := 139) hx hb dX6_card_95 (by decide) (fun c_13 => ?_) (fun c_13 => ?_)
          · replace hF := ifn hF c_13
            refine lv_iload_n hx hb dX6_card_139 rfl (lv_at hl 1 rfl) ?_
            refine lv_bipush (v := (nI 7)) hx hb dX6_card_140 (by decide) ?_
            refine lv_icmp_ne (tgt := 152) hx hb dX6_card_142 (by decide) (fun c_14 => ?_) (fun c_14 => ?_)
            · replace hF := ifn hF c_14
              refine lv_aload_n hx hb dX6_card_152 rfl (lv_at hl 0 rfl) ?_
              refine r_get hx hb hts inX6 hown hK hS 0 23 rfl rfl (by decide) q3 rfl dX6_card_153 ?_
              exact B156 I_0u8 v1 v2 (I_0u8 0 23) _ _ _ hS (lv_sub hl [0, 1, 2] rfl) hF
            · replace hF := ifp hF c_14
              refine lv_aload_n hx hb dX6_card_145 rfl (lv_at hl 0 rfl) ?_
              refine r_get hx hb hts inX6 hown hK hS 0 21 rfl rfl (by decide) q4 rfl dX6_card_146 ?_
              refine lv_goto (tgt := 156) hx hb dX6_card_149 (by decide) ?_
              exact B156 I_0u8 v1 v2 (I_0u8 0 21) _ _ _ hS (lv_sub hl [0, 1, 2] rfl) hF
          · replace hF := ifp hF c_13
            refine lv_iload_n hx hb dX6_card_98 rfl (lv_at hl 2 rfl) ?_
            refine lv_aload_n hx hb dX6_card_99 rfl (lv_at hl 0 rfl) ?_
            refine r_get hx hb hts inX6 hown hK hS 0 10 rfl rfl (by decide) q5 rfl dX6_card_100 ?_
            refine lv_iconst (v := (nI 0)) hx hb dX6_card_103 (by decide) ?_
            replace hF := rdA_e hF
            obtain ⟨hi16, x15, ex15, hF⟩ := hF
            refine r_iald hx hb hK hS 1 rfl rfl hi16 dX6_card_104 ex15 ?_
            refine lv_icmp_ge (tgt := 137) hx hb dX6_card_105 (by decide) (fun c_17 => ?_) (fun c_17 => ?_)
            · replace hF := ifp hF c_17
              refine lv_iconst (v := (-1)) hx hb dX6_card_137 (by decide) ?_
              have e9_0 := Option.some.inj hF
              obtain ⟨f9_0, e9_1⟩ := Prod.mk.inj e9_0
              subst f9_0
              subst e9_1
              exact kret _ _ _ _ hS dX6_card_138
            · replace hF := ifn hF c_17
              refine lv_aload_n hx hb dX6_card_108 rfl (lv_at hl 0 rfl) ?_
              refine r_get hx hb hts inX6 hown hK hS 0 19 rfl rfl (by decide) q6 rfl dX6_card_109 ?_
              refine lv_iload_n hx hb dX6_card_112 rfl (lv_at hl 2 rfl) ?_
              replace hF := rdA_e hF
              obtain ⟨hi19, x18, ex18, hF⟩ := hF
              refine r_iald hx hb hK hS 7 rfl rfl hi19 dX6_card_113 ex18 ?_
              refine lv_if_le (tgt := 137) hx hb dX6_card_114 (by decide) (fun c_20 => ?_) (fun c_20 => ?_)
              · replace hF := ifp hF c_20
                refine lv_iconst (v := (-1)) hx hb dX6_card_137 (by decide) ?_
                have e9_0 := Option.some.inj hF
                obtain ⟨f9_0, e9_1⟩ := Prod.mk.inj e9_0
                subst f9_0
                subst e9_1
                exact kret _ _ _ _ hS dX6_card_138
              · replace hF := ifn hF c_20
                refine lv_iload_n hx hb dX6_card_117 rfl (lv_at hl 2 rfl) ?_
                refine lv_aload_n hx hb dX6_card_118 rfl (lv_at hl 0 rfl) ?_
                refine r_get hx hb hts inX6 hown hK hS 0 10 rfl rfl (by decide) q5 rfl dX6_card_119 ?_
                refine lv_iconst (v := (nI 1)) hx hb dX6_card_122 (by decide) ?_
                replace hF := rdA_e hF
                obtain ⟨hi22, x21, ex21, hF⟩ := hF
                refine r_iald hx hb hK hS 1 rfl rfl hi22 dX6_card_123 ex21 ?_
                refine lv_imul hx hb dX6_card_124 ?_
                refine lv_aload_n hx hb dX6_card_125 rfl (lv_at hl 0 rfl) ?_
                refine r_get hx hb hts inX6 hown hK hS 0 19 rfl rfl (by decide) q6 rfl dX6_card_126 ?_
                refine lv_iload_n hx hb dX6_card_129 rfl (lv_at hl 2 rfl) ?_
                replace hF := rdA_e hF
                obtain ⟨hi24, x23, ex23, hF⟩ := hF
                refine r_iald hx hb hK hS 7 rfl rfl hi24 dX6_card_130 ex23 ?_
                refine lv_iadd hx hb dX6_card_131 ?_
                refine lv_iconst (v := (nI 1)) hx hb dX6_card_132 (by decide) ?_
                refine lv_isub hx hb dX6_card_133 ?_
                refine lv_goto (tgt := 138) hx hb dX6_card_134 (by decide) ?_
                have e9_0 := Option.some.inj hF
                obtain ⟨f9_0, e9_1⟩ := Prod.mk.inj e9_0
                subst f9_0
                subst e9_1
                exact kret _ _ _ _ hS dX6_card_138
        · replace hF := ifn hF c_12
          refine lv_iload_n hx hb dX6_card_75 rfl (lv_at hl 2 rfl) ?_
          refine lv_if_ne (tgt := 90) hx hb dX6_card_76 (by decide) (fun c_25 => ?_) (fun c_25 => ?_)
          · replace hF := ifn hF c_25
            refine lv_iconst (v := (-1)) hx hb dX6_card_90 (by decide) ?_
            have e9_0 := Option.some.inj hF
            obtain ⟨f9_0, e9_1⟩ := Prod.mk.inj e9_0
            subst f9_0
            subst e9_1
            exact kret _ _ _ _ hS dX6_card_91
          · replace hF := ifp hF c_25
            refine lv_aload_n hx hb dX6_card_79 rfl (lv_at hl 0 rfl) ?_
            refine r_get hx hb hts inX6 hown hK hS 0 18 rfl rfl (by decide) q7 rfl dX6_card_80 ?_
            refine lv_iload_n hx hb dX6_card_83 rfl (lv_at hl 1 rfl) ?_
            refine lv_iconst (v := (nI 5)) hx hb dX6_card_84 (by decide) ?_
            refine lv_isub hx hb dX6_card_85 ?_
            replace hF := rdA_e hF
            obtain ⟨hi27, x26, ex26, hF⟩ := hF
            refine r_iald hx hb hK hS 6 rfl rfl hi27 dX6_card_86 ex26 ?_
            refine lv_goto (tgt := 91) hx hb dX6_card_87 (by decide) ?_
            have e9_0 := Option.some.inj hF
            obtain ⟨f9_0, e9_1⟩ := Prod.mk.inj e9_0
            subst f9_0
            subst e9_1
            exact kret _ _ _ _ hS dX6_card_91
      · replace hF := ifn hF c_11
        refine lv_iload_n hx hb dX6_card_33 rfl (lv_at hl 2 rfl) ?_
        refine lv_aload_n hx hb dX6_card_34 rfl (lv_at hl 0 rfl) ?_
        refine r_get hx hb hts inX6 hown hK hS 0 16 rfl rfl (by decide) q8 rfl dX6_card_35 ?_
        refine lv_iload_n hx hb dX6_card_38 rfl (lv_at hl 1 rfl) ?_
        replace hF := rdA_e hF
        obtain ⟨hi29, x28, ex28, hF⟩ := hF
        refine r_iald hx hb hK hS 4 rfl rfl hi29 dX6_card_39 ex28 ?_
        refine lv_icmp_lt (tgt := 47) hx hb dX6_card_40 (by decide) (fun c_30 => ?_) (fun c_30 => ?_)
        · replace hF := ifp hF c_30
          refine lv_iload_n hx hb dX6_card_47 rfl (lv_at hl 2 rfl) ?_
          refine lv_aload_n hx hb dX6_card_48 rfl (lv_at hl 0 rfl) ?_
          refine r_get hx hb hts inX6 hown hK hS 0 17 rfl rfl (by decide) q9 rfl dX6_card_49 ?_
          refine lv_iload_n hx hb dX6_card_52 rfl (lv_at hl 1 rfl) ?_
          replace hF := rdA_e hF
          obtain ⟨hi32, x31, ex31, hF⟩ := hF
          refine r_iald hx hb hK hS 5 rfl rfl hi32 dX6_card_53 ex31 ?_
          refine lv_icmp_ge (tgt := 62) hx hb dX6_card_54 (by decide) (fun c_33 => ?_) (fun c_33 => ?_)
          · replace hF := ifp hF c_33
            refine lv_aload_n hx hb dX6_card_62 rfl (lv_at hl 0 rfl) ?_
            refine lv_iload_n hx hb dX6_card_63 rfl (lv_at hl 1 rfl) ?_
            refine lv_iload_n hx hb dX6_card_64 rfl (lv_at hl 2 rfl) ?_
            replace hF := cal1_e hF
            obtain ⟨x34, hc35, hF⟩ := hF
            refine kV_i (As := [.int v1, .int v2]) (rest := []) (wr := []) (w2 := [(h_0, oX6 h_0_of h_0_kept h_0_column h_0_size h_0_hidden h_0_cell h_0_home h_0_waste h_0_stock h_0_past h_0_start h_0_known h_0_sorted h_0_row h_0_best I_0u8), (h_0_of, eI cI 9 (I_0u8 1)), (h_0_kept, eI cI 9 (I_0u8 2)), (h_0_column, eJ cJ 5 (L_0 0)), (h_0_size, eI cI 5 (I_0u8 3)), (h_0_hidden, eI cI 5 (I_0u8 4)), (h_0_cell, eI cI 2 (I_0u8 5)), (h_0_home, eI cI 4 (I_0u8 6)), (h_0_waste, eI cI 8 (I_0u8 7)), (h_0_stock, eI cI 8 (I_0u8 8)), (h_0_past, eJ cJ 1616 (L_0 1)), (h_0_start, eJ cJ 8 (L_0 2)), (h_0_known, eJ cJ 3216 (L_0 3)), (h_0_sorted, eJ cJ 3216 (L_0 4)), (h_0_row, eI cI 16 (I_0u8 9)), (h_0_best, eJ cJ 8 (L_0 5))]) hCF hK (c_X6_cardAt l D cI cJ h_0 h_0_of h_0_kept h_0_column h_0_size h_0_hidden h_0_cell h_0_home h_0_waste h_0_stock h_0_past h_0_start h_0_known h_0_sorted h_0_row h_0_best I_0u8 L_0 v1 v2 x34 hc35) (cwV 2 hts (TBL_V mw_461 mw_462 mw_463 mw_5 mw_464) rfl rfl rfl pmX6_cardAt ⟨Nat.le_of_ble_eq_true rfl, Nat.le_of_ble_eq_true rfl⟩) hS hA [0, 1, 2, 3, 4, 5, 6, 7, 8, 9, 10, 11, 12, 13, 14, 15] [] rfl rfl rfl rfl (by decide) rfl rfl rfl hl.1 rfl (Nat.le_of_ble_eq_true rfl) ⟨Nat.zero_le _, Nat.zero_le _⟩ dX6_card_65 rfl (fun H locs hS => ?_)
            have e9_0 := Option.some.inj hF
            obtain ⟨f9_0, e9_1⟩ := Prod.mk.inj e9_0
            subst f9_0
            subst e9_1
            exact kret _ _ _ _ hS dX6_card_68
          · replace hF := ifn hF c_33
            refine lv_bipush (v := (-2)) hx hb dX6_card_57 (by decide) ?_
            refine lv_goto (tgt := 68) hx hb dX6_card_59 (by decide) ?_
            have e9_0 := Option.some.inj hF
            obtain ⟨f9_0, e9_1⟩ := Prod.mk.inj e9_0
            subst f9_0
            subst e9_1
            exact kret _ _ _ _ hS dX6_card_68
        · replace hF := ifn hF c_30
          refine lv_iconst (v := (-1)) hx hb dX6_card_43 (by decide) ?_
          refine lv_goto (tgt := 68) hx hb dX6_card_44 (by decide) ?_
          have e9_0 := Option.some.inj hF
          obtain ⟨f9_0, e9_1⟩ := Prod.mk.inj e9_0
          subst f9_0
          subst e9_1
          exact kret _ _ _ _ hS dX6_card_68
    · replace hF := ifp hF c_10
      refine lv_iconst (v := (nI 0)) hx hb dX6_card_26 (by decide) ?_
      have e9_0 := Option.some.inj hF
      obtain ⟨f9_0, e9_1⟩ := Prod.mk.inj e9_0
      subst f9_0
      subst e9_1
      exact kret _ _ _ _ hS dX6_card_27
  unfold F_X6_card at hF
  refine lv_aload_n hx hb dX6_card_0 rfl (lv_at hl 0 rfl) ?_
  refine lv_iload_n hx hb dX6_card_1 rfl (lv_at hl 1 rfl) ?_
  refine lv_iconst (v := (nI 0)) hx hb dX6_card_2 (by decide) ?_
  refine lv_bipush (v := (nI 9)) hx hb dX6_card_3 (by decide) ?_
  replace hF := cal1_e hF
  obtain ⟨x36, hc37, hF⟩ := hF
  refine kS_i (As := [.int v1, .int (nI 0), .int (nI 9)]) (rest := [.ref h_0]) (wr := [(h_0, oX6 h_0_of h_0_kept h_0_column h_0_size h_0_hidden h_0_cell h_0_home h_0_waste h_0_stock h_0_past h_0_start h_0_known h_0_sorted h_0_row h_0_best I_0), (h_0_of, eI cI 9 (I_0 1)), (h_0_kept, eI cI 9 (I_0 2)), (h_0_column, eJ cJ 5 (L_0 0)), (h_0_size, eI cI 5 (I_0 3)), (h_0_hidden, eI cI 5 (I_0 4)), (h_0_cell, eI cI 2 (I_0 5)), (h_0_home, eI cI 4 (I_0 6)), (h_0_waste, eI cI 8 (I_0 7)), (h_0_stock, eI cI 8 (I_0 8)), (h_0_past, eJ cJ 1616 (L_0 1)), (h_0_start, eJ cJ 8 (L_0 2)), (h_0_known, eJ cJ 3216 (L_0 3)), (h_0_sorted, eJ cJ 3216 (L_0 4)), (h_0_row, eI cI 16 (I_0 9)), (h_0_best, eJ cJ 8 (L_0 5))]) (w2 := [(h_0, oX6 h_0_of h_0_kept h_0_column h_0_size h_0_hidden h_0_cell h_0_home h_0_waste h_0_stock h_0_past h_0_start h_0_known h_0_sorted h_0_row h_0_best I_0), (h_0_of, eI cI 9 (I_0 1)), (h_0_kept, eI cI 9 (I_0 2)), (h_0_column, eJ cJ 5 (L_0 0)), (h_0_size, eI cI 5 (I_0 3)), (h_0_hidden, eI cI 5 (I_0 4)), (h_0_cell, eI cI 2 (I_0 5)), (h_0_home, eI cI 4 (I_0 6)), (h_0_waste, eI cI 8 (I_0 7)), (h_0_stock, eI cI 8 (I_0 8)), (h_0_past, eJ cJ 1616 (L_0 1)), (h_0_start, eJ cJ 8 (L_0 2)), (h_0_known, eJ cJ 3216 (L_0 3)), (h_0_sorted, eJ cJ 3216 (L_0 4)), (h_0_row, eI cI 16 (I_0 9)), (h_0_best, eJ cJ 8 (L_0 5))]) hCF hK (c_X6_in l D cI cJ v1 (nI 0) (nI 9) x36 hc37) (va_cwS 3 hts (TBL_S mw_234 mw_235 mw_5 mw_236) rfl rfl rfl pmX6_in.2 ⟨Nat.le_of_ble_eq_true rfl, Nat.le_of_ble_eq_true rfl⟩) hS hA [] [0, 1, 2, 3, 4, 5, 6, 7, 8, 9, 10, 11, 12, 13, 14, 15] rfl rfl rfl rfl (by decide) rfl hl.1 rfl (Nat.le_of_ble_eq_true rfl) ⟨Nat.zero_le _, Nat.zero_le _⟩ dX6_card_5 rfl (fun H locs hS => ?_)
  refine lv_if_eq (tgt := 19) hx hb dX6_card_8 (by decide) (fun c_38 => ?_) (fun c_38 => ?_)
  · replace hF := ifp hF c_38
    refine lv_iconst (v := (nI 1)) hx hb dX6_card_19 (by decide) ?_
    exact B20 I_0 v1 v2 (nI 1) _ _ _ hS (lv_sub hl [0, 1, 2] rfl) hF
  · replace hF := ifn hF c_38
    refine lv_iload_n hx hb dX6_card_11 rfl (lv_at hl 2 rfl) ?_
    refine lv_if_lt (tgt := 19) hx hb dX6_card_12 (by decide) (fun c_39 => ?_) (fun c_39 => ?_)
    · replace hF := ifp hF c_39
      refine lv_iconst (v := (nI 1)) hx hb dX6_card_19 (by decide) ?_
      exact B20 I_0 v1 v2 (nI 1) _ _ _ hS (lv_sub hl [0, 1, 2] rfl) hF
    · replace hF := ifn hF c_39
      refine lv_iconst (v := (nI 0)) hx hb dX6_card_15 (by decide) ?_
      refine lv_goto (tgt := 20) hx hb dX6_card_16 (by decide) ?_
      exact B20 I_0 v1 v2 (nI 0) _ _ _ hS (lv_sub hl [0, 1, 2] rfl) hF
set_option maxHeartbeats 4000000 in
set_option maxRecDepth 100000 in
theorem c_X6_told (l : Launch) (D : va_G) (cI cJ : ClassId) (h_0 h_0_of h_0_kept h_0_column h_0_size h_0_hidden h_0_cell h_0_home h_0_waste h_0_stock h_0_past h_0_start h_0_known h_0_sorted h_0_row h_0_best : Nat) (L_0 : Nat → Nat → Int64) (I_0 : Nat → Nat → Int32) (v1 : Int32) (rv : Int32) (r_I_0 : Nat → Nat → Int32) (hF : F_X6_told L_0 I_0 v1 = some (rv, r_I_0)) : CtI l D [(cI, .int), (cJ, .long)] yX6_told wtX6_told ({ frames := 2, cells := 0, slots := 0, locals := 40 } : Room) [.ref h_0, .int v1] [(h_0, oX6 h_0_of h_0_kept h_0_column h_0_size h_0_hidden h_0_cell h_0_home h_0_waste h_0_stock h_0_past h_0_start h_0_known h_0_sorted h_0_row h_0_best I_0), (h_0_of, eI cI 9 (I_0 1)), (h_0_kept, eI cI 9 (I_0 2)), (h_0_column, eJ cJ 5 (L_0 0)), (h_0_size, eI cI 5 (I_0 3)), (h_0_hidden, eI cI 5 (I_0 4)), (h_0_cell, eI cI 2 (I_0 5)), (h_0_home, eI cI 4 (I_0 6)), (h_0_waste, eI cI 8 (I_0 7)), (h_0_stock, eI cI 8 (I_0 8)), (h_0_past, eJ cJ 1616 (L_0 1)), (h_0_start, eJ cJ 8 (L_0 2)), (h_0_known, eJ cJ 3216 (L_0 3)), (h_0_sorted, eJ cJ 3216 (L_0 4)), (h_0_row, eI cI 16 (I_0 9)), (h_0_best, eJ cJ 8 (L_0 5))] [(h_0, oX6 h_0_of h_0_kept h_0_column h_0_size h_0_hidden h_0_cell h_0_home h_0_waste h_0_stock h_0_past h_0_start h_0_known h_0_sorted h_0_row h_0_best r_I_0), (h_0_of, eI cI 9 (r_I_0 1)), (h_0_kept, eI cI 9 (r_I_0 2)), (h_0_column, eJ cJ 5 (L_0 0)), (h_0_size, eI cI 5 (r_I_0 3)), (h_0_hidden, eI cI 5 (r_I_0 4)), (h_0_cell, eI cI 2 (r_I_0 5)), (h_0_home, eI cI 4 (r_I_0 6)), (h_0_waste, eI cI 8 (r_I_0 7)), (h_0_stock, eI cI 8 (r_I_0 8)), (h_0_past, eJ cJ 1616 (L_0 1)), (h_0_start, eJ cJ 8 (L_0 2)), (h_0_known, eJ cJ 3216 (L_0 3)), (h_0_sorted, eJ cJ 3216 (L_0 4)), (h_0_row, eI cI 16 (r_I_0 9)), (h_0_best, eJ cJ 8 (L_0 5))] rv := by
  refine CtI.of (cc := cX6_told) (maxL := 2) (by decide) rfl (Nat.le_of_ble_eq_true rfl) ?_
  intro p e s m args below meth c A H0 Q ls X hS hl kret
  have hCF := X.1
  obtain ⟨⟨hx, hb, hml, hown, hts⟩, hK, hA⟩ := X
  have hl : lv_has ls 2 [(0, .ref h_0), (1, .int v1)] := hl
  have q0 := hts (.fieldLink RX6 148 "PatienceryModel" "done" "I") (List.mem_cons_of_mem _ mw_305)
  have inX6 : ∀ w ∈ u_ws RX6 TX6 32, w ∈ wtX6_told := fun w h => List.mem_cons_of_mem _ (inlX6 w h)
  have q2 := hts (.fieldLink RX6 151 "PatienceryModel" "undone" "I") (List.mem_cons_of_mem _ mw_306)
  have q3 := hts (.fieldLink RX6 123 "PatienceryModel" "turned" "I") (List.mem_cons_of_mem _ mw_196)
  have q4 := hts (.fieldLink RX6 141 "PatienceryModel" "earlier" "I") (List.mem_cons_of_mem _ mw_304)
  have q5 := hts (.fieldLink RX6 39 "PatienceryModel" "hidden" "[I") (List.mem_cons_of_mem _ mw_165)
  have B16 : ∀ (I_0 : Nat → Nat → Int32) (v1 : Int32) (s1 : Int32) (H : Heap) (locs : List Loc) (ls : Array Slot), HS D A H0 [(h_0, oX6 h_0_of h_0_kept h_0_column h_0_size h_0_hidden h_0_cell h_0_home h_0_waste h_0_stock h_0_past h_0_start h_0_known h_0_sorted h_0_row h_0_best I_0), (h_0_of, eI cI 9 (I_0 1)), (h_0_kept, eI cI 9 (I_0 2)), (h_0_column, eJ cJ 5 (L_0 0)), (h_0_size, eI cI 5 (I_0 3)), (h_0_hidden, eI cI 5 (I_0 4)), (h_0_cell, eI cI 2 (I_0 5)), (h_0_home, eI cI 4 (I_0 6)), (h_0_waste, eI cI 8 (I_0 7)), (h_0_stock, eI cI 8 (I_0 8)), (h_0_past, eJ cJ 1616 (L_0 1)), (h_0_start, eJ cJ 8 (L_0 2)), (h_0_known, eJ cJ 3216 (L_0 3)), (h_0_sorted, eJ cJ 3216 (L_0 4)), (h_0_row, eI cI 16 (I_0 9)), (h_0_best, eJ cJ 8 (L_0 5))] H locs → lv_has ls 2 [(0, .ref h_0), (1, .int v1)] → F_X6_told_b16 L_0  I_0 v1 s1 = some (rv, r_I_0) → W p l e ({ frames := 2, cells := 0, slots := 0, locals := 40 } : Room) s m args below meth c H locs 0 0 Q (F0 m 16 ls [.int s1, .ref h_0]) := by
    intro I_0 v1 s1 H locs ls hS hl hF
    unfold F_X6_told_b16 at hF
    replace hF := cal2_e hF
    obtain ⟨x1, I_0u2, hc3, hF⟩ := hF
    refine kV_i (As := [.int s1]) (rest := []) (wr := []) (w2 := [(h_0, oX6 h_0_of h_0_kept h_0_column h_0_size h_0_hidden h_0_cell h_0_home h_0_waste h_0_stock h_0_past h_0_start h_0_known h_0_sorted h_0_row h_0_best I_0u2), (h_0_of, eI cI 9 (I_0u2 1)), (h_0_kept, eI cI 9 (I_0u2 2)), (h_0_column, eJ cJ 5 (L_0 0)), (h_0_size, eI cI 5 (I_0u2 3)), (h_0_hidden, eI cI 5 (I_0u2 4)), (h_0_cell, eI cI 2 (I_0u2 5)), (h_0_home, eI cI 4 (I_0u2 6)), (h_0_waste, eI cI 8 (I_0u2 7)), (h_0_stock, eI cI 8 (I_0u2 8)), (h_0_past, eJ cJ 1616 (L_0 1)), (h_0_start, eJ cJ 8 (L_0 2)), (h_0_known, eJ cJ 3216 (L_0 3)), (h_0_sorted, eJ cJ 3216 (L_0 4)), (h_0_row, eI cI 16 (I_0u2 9)), (h_0_best, eJ cJ 8 (L_0 5))]) hCF hK (c_X6_goesWell l D cI cJ h_0 h_0_of h_0_kept h_0_column h_0_size h_0_hidden h_0_cell h_0_home h_0_waste h_0_stock h_0_past h_0_start h_0_known h_0_sorted h_0_row h_0_best L_0 I_0 s1 x1 I_0u2 hc3) (cwV 1 hts (TBL_V mw_237 mw_238 mw_239 mw_5 mw_240) rfl rfl rfl pmX6_goesWell ⟨Nat.le_of_ble_eq_true rfl, Nat.le_of_ble_eq_true rfl⟩) hS hA [0, 1, 2, 3, 4, 5, 6, 7, 8, 9, 10, 11, 12, 13, 14, 15] [] rfl rfl rfl rfl (by decide) rfl rfl rfl hl.1 rfl (Nat.le_of_ble_eq_true rfl) ⟨Nat.zero_le _, Nat.zero_le _⟩ dX6_told_16 rfl (fun H locs hS => ?_)
    refine lv_if_ne (tgt := 24) hx hb dX6_told_19 (by decide) (fun c_4 => ?_) (fun c_4 => ?_)
    · replace hF := ifn hF c_4
      refine lv_iload_n hx hb dX6_told_24 rfl (lv_at hl 1 rfl) ?_
      by_cases c_5 : v1 = (nI 0)
      · replace hF := ifp hF c_5
        refine lv_tableIn (tgt := 68) hx hb dX6_told_25 (by rw [c_5]; decide) (by rw [c_5]; decide) (by rw [c_5]; rfl) (by decide) ?_
        refine lv_aload_n hx hb dX6_told_68 rfl (lv_at hl 0 rfl) ?_
        replace hF := cal1_e hF
        obtain ⟨x6, hc7, hF⟩ := hF
        refine kV_i (As := []) (rest := []) (wr := []) (w2 := [(h_0, oX6 h_0_of h_0_kept h_0_column h_0_size h_0_hidden h_0_cell h_0_home h_0_waste h_0_stock h_0_past h_0_start h_0_known h_0_sorted h_0_row h_0_best I_0u2), (h_0_of, eI cI 9 (I_0u2 1)), (h_0_kept, eI cI 9 (I_0u2 2)), (h_0_column, eJ cJ 5 (L_0 0)), (h_0_size, eI cI 5 (I_0u2 3)), (h_0_hidden, eI cI 5 (I_0u2 4)), (h_0_cell, eI cI 2 (I_0u2 5)), (h_0_home, eI cI 4 (I_0u2 6)), (h_0_waste, eI cI 8 (I_0u2 7)), (h_0_stock, eI cI 8 (I_0u2 8)), (h_0_past, eJ cJ 1616 (L_0 1)), (h_0_start, eJ cJ 8 (L_0 2)), (h_0_known, eJ cJ 3216 (L_0 3)), (h_0_sorted, eJ cJ 3216 (L_0 4)), (h_0_row, eI cI 16 (I_0u2 9)), (h_0_best, eJ cJ 8 (L_0 5))]) hCF hK (c_X6_atHome l D cI cJ h_0 h_0_of h_0_kept h_0_column h_0_size h_0_hidden h_0_cell h_0_home h_0_waste h_0_stock h_0_past h_0_start h_0_known h_0_sorted h_0_row h_0_best I_0u2 L_0 x6 hc7) (cwV 0 hts (TBL_V mw_311 mw_312 mw_313 mw_5 mw_314) rfl rfl rfl pmX6_atHome ⟨Nat.le_of_ble_eq_true rfl, Nat.le_of_ble_eq_true rfl⟩) hS hA [0, 1, 2, 3, 4, 5, 6, 7, 8, 9, 10, 11, 12, 13, 14, 15] [] rfl rfl rfl rfl (by decide) rfl rfl rfl hl.1 rfl (Nat.le_of_ble_eq_true rfl) ⟨Nat.zero_le _, Nat.zero_le _⟩ dX6_told_69 rfl (fun H locs hS => ?_)
        have e9_0 := Option.some.inj hF
        obtain ⟨f9_0, e9_1⟩ := Prod.mk.inj e9_0
        subst f9_0
        subst e9_1
        exact kret _ _ _ _ hS dX6_told_72
      replace hF := ifn hF c_5
      by_cases c_8 : v1 = (nI 1)
      · replace hF := ifp hF c_8
        refine lv_tableIn (tgt := 73) hx hb dX6_told_25 (by rw [c_8]; decide) (by rw [c_8]; decide) (by rw [c_8]; rfl) (by decide) ?_
        refine lv_aload_n hx hb dX6_told_73 rfl (lv_at hl 0 rfl) ?_
        refine r_get hx hb hts inX6 hown hK hS 0 13 rfl rfl (by decide) q0 rfl dX6_told_74 ?_
        have e9_0 := Option.some.inj hF
        obtain ⟨f9_0, e9_1⟩ := Prod.mk.inj e9_0
        subst f9_0
        subst e9_1
        exact kret _ _ _ _ hS dX6_told_77
      replace hF := ifn hF c_8
      by_cases c_9 : v1 = (nI 2)
      · replace hF := ifp hF c_9
        refine lv_tableIn (tgt := 78) hx hb dX6_told_25 (by rw [c_9]; decide) (by rw [c_9]; decide) (by rw [c_9]; rfl) (by decide) ?_
        refine lv_aload_n hx hb dX6_told_78 rfl (lv_at hl 0 rfl) ?_
        refine r_get hx hb hts inX6 hown hK hS 0 12 rfl rfl (by decide) q2 rfl dX6_told_79 ?_
        have e9_0 := Option.some.inj hF
        obtain ⟨f9_0, e9_1⟩ := Prod.mk.inj e9_0
        subst f9_0
        subst e9_1
        exact kret _ _ _ _ hS dX6_told_82
      replace hF := ifn hF c_9
      by_cases c_10 : v1 = (nI 3)
      · replace hF := ifp hF c_10
        refine lv_tableIn (tgt := 83) hx hb dX6_told_25 (by rw [c_10]; decide) (by rw [c_10]; decide) (by rw [c_10]; rfl) (by decide) ?_
        refine lv_aload_n hx hb dX6_told_83 rfl (lv_at hl 0 rfl) ?_
        refine r_get hx hb hts inX6 hown hK hS 0 24 rfl rfl (by decide) q3 rfl dX6_told_84 ?_
        have e9_0 := Option.some.inj hF
        obtain ⟨f9_0, e9_1⟩ := Prod.mk.inj e9_0
        subst f9_0
        subst e9_1
        exact kret _ _ _ _ hS dX6_told_87
      replace hF := ifn hF c_10
      by_cases c_11 : v1 = (nI 4)
      · replace hF := ifp hF c_11
        refine lv_tableIn (tgt := 88) hx hb dX6_told_25 (by rw [c_11]; decide) (by rw [c_11]; decide) (by rw [c_11]; rfl) (by decide) ?_
        refine lv_aload_n hx hb dX6_told_88 rfl (lv_at hl 0 rfl) ?_
        replace hF := cal1_e hF
        obtain ⟨x12, hc13, hF⟩ := hF
        refine kV_i (As := []) (rest := []) (wr := []) (w2 := [(h_0, oX6 h_0_of h_0_kept h_0_column h_0_size h_0_hidden h_0_cell h_0_home h_0_waste h_0_stock h_0_past h_0_start h_0_known h_0_sorted h_0_row h_0_best I_0u2), (h_0_of, eI cI 9 (I_0u2 1)), (h_0_kept, eI cI 9 (I_0u2 2)), (h_0_column, eJ cJ 5 (L_0 0)), (h_0_size, eI cI 5 (I_0u2 3)), (h_0_hidden, eI cI 5 (I_0u2 4)), (h_0_cell, eI cI 2 (I_0u2 5)), (h_0_home, eI cI 4 (I_0u2 6)), (h_0_waste, eI cI 8 (I_0u2 7)), (h_0_stock, eI cI 8 (I_0u2 8)), (h_0_past, eJ cJ 1616 (L_0 1)), (h_0_start, eJ cJ 8 (L_0 2)), (h_0_known, eJ cJ 3216 (L_0 3)), (h_0_sorted, eJ cJ 3216 (L_0 4)), (h_0_row, eI cI 16 (I_0u2 9)), (h_0_best, eJ cJ 8 (L_0 5))]) hCF hK (c_X6_money l D cI cJ h_0 h_0_of h_0_kept h_0_column h_0_size h_0_hidden h_0_cell h_0_home h_0_waste h_0_stock h_0_past h_0_start h_0_known h_0_sorted h_0_row h_0_best I_0u2 L_0 x12 hc13) (cwV 0 hts (TBL_V mw_307 mw_308 mw_309 mw_5 mw_310) rfl rfl rfl pmX6_money ⟨Nat.le_of_ble_eq_true rfl, Nat.le_of_ble_eq_true rfl⟩) hS hA [0, 1, 2, 3, 4, 5, 6, 7, 8, 9, 10, 11, 12, 13, 14, 15] [] rfl rfl rfl rfl (by decide) rfl rfl rfl hl.1 rfl (Nat.le_of_ble_eq_true rfl) ⟨Nat.zero_le _, Nat.zero_le _⟩ dX6_told_89 rfl (fun H locs hS => ?_)
        have e9_0 := Option.some.inj hF
        obtain ⟨f9_0, e9_1⟩ := Prod.mk.inj e9_0
        subst f9_0
        subst e9_1
        exact kret _ _ _ _ hS dX6_told_92
      replace hF := ifn hF c_11
      by_cases c_14 : v1 = (nI 5)
      · replace hF := ifp hF c_14
        refine lv_tableIn (tgt := 93) hx hb dX6_told_25 (by rw [c_14]; decide) (by rw [c_14]; decide) (by rw [c_14]; rfl) (by decide) ?_
        refine lv_aload_n hx hb dX6_told_93 rfl (lv_at hl 0 rfl) ?_
        refine r_get hx hb hts inX6 hown hK hS 0 14 rfl rfl (by decide) q4 rfl dX6_told_94 ?_
        refine lv_aload_n hx hb dX6_told_97 rfl (lv_at hl 0 rfl) ?_
        replace hF := cal1_e hF
        obtain ⟨x15, hc16, hF⟩ := hF
        refine kV_i (As := []) (rest := [.int (I_0u2 0 14)]) (wr := []) (w2 := [(h_0, oX6 h_0_of h_0_kept h_0_column h_0_size h_0_hidden h_0_cell h_0_home h_0_waste h_0_stock h_0_past h_0_start h_0_known h_0_sorted h_0_row h_0_best I_0u2), (h_0_of, eI cI 9 (I_0u2 1)), (h_0_kept, eI cI 9 (I_0u2 2)), (h_0_column, eJ cJ 5 (L_0 0)), (h_0_size, eI cI 5 (I_0u2 3)), (h_0_hidden, eI cI 5 (I_0u2 4)), (h_0_cell, eI cI 2 (I_0u2 5)), (h_0_home, eI cI 4 (I_0u2 6)), (h_0_waste, eI cI 8 (I_0u2 7)), (h_0_stock, eI cI 8 (I_0u2 8)), (h_0_past, eJ cJ 1616 (L_0 1)), (h_0_start, eJ cJ 8 (L_0 2)), (h_0_known, eJ cJ 3216 (L_0 3)), (h_0_sorted, eJ cJ 3216 (L_0 4)), (h_0_row, eI cI 16 (I_0u2 9)), (h_0_best, eJ cJ 8 (L_0 5))]) hCF hK (c_X6_money l D cI cJ h_0 h_0_of h_0_kept h_0_column h_0_size h_0_hidden h_0_cell h_0_home h_0_waste h_0_stock h_0_past h_0_start h_0_known h_0_sorted h_0_row h_0_best I_0u2 L_0 x15 hc16) (cwV 0 hts (TBL_V mw_307 mw_308 mw_309 mw_5 mw_310) rfl rfl rfl pmX6_money ⟨Nat.le_of_ble_eq_true rfl, Nat.le_of_ble_eq_true rfl⟩) hS hA [0, 1, 2, 3, 4, 5, 6, 7, 8, 9, 10, 11, 12, 13, 14, 15] [] rfl rfl rfl rfl (by decide) rfl rfl rfl hl.1 rfl (Nat.le_of_ble_eq_true rfl) ⟨Nat.zero_le _, Nat.zero_le _⟩ dX6_told_98 rfl (fun H locs hS => ?_)
        refine lv_iadd hx hb dX6_told_101 ?_
        have e9_0 := Option.some.inj hF
        obtain ⟨f9_0, e9_1⟩ := Prod.mk.inj e9_0
        subst f9_0
        subst e9_1
        exact kret _ _ _ _ hS dX6_told_102
      replace hF := ifn hF c_14
      by_cases c_17 : v1 = (nI 6)
      · replace hF := ifp hF c_17
        refine lv_tableIn (tgt := 103) hx hb dX6_told_25 (by rw [c_17]; decide) (by rw [c_17]; decide) (by rw [c_17]; rfl) (by decide) ?_
        refine lv_aload_n hx hb dX6_told_103 rfl (lv_at hl 0 rfl) ?_
        replace hF := cal1_e hF
        obtain ⟨x18, hc19, hF⟩ := hF
        refine kV_i (As := []) (rest := []) (wr := []) (w2 := [(h_0, oX6 h_0_of h_0_kept h_0_column h_0_size h_0_hidden h_0_cell h_0_home h_0_waste h_0_stock h_0_past h_0_start h_0_known h_0_sorted h_0_row h_0_best I_0u2), (h_0_of, eI cI 9 (I_0u2 1)), (h_0_kept, eI cI 9 (I_0u2 2)), (h_0_column, eJ cJ 5 (L_0 0)), (h_0_size, eI cI 5 (I_0u2 3)), (h_0_hidden, eI cI 5 (I_0u2 4)), (h_0_cell, eI cI 2 (I_0u2 5)), (h_0_home, eI cI 4 (I_0u2 6)), (h_0_waste, eI cI 8 (I_0u2 7)), (h_0_stock, eI cI 8 (I_0u2 8)), (h_0_past, eJ cJ 1616 (L_0 1)), (h_0_start, eJ cJ 8 (L_0 2)), (h_0_known, eJ cJ 3216 (L_0 3)), (h_0_sorted, eJ cJ 3216 (L_0 4)), (h_0_row, eI cI 16 (I_0u2 9)), (h_0_best, eJ cJ 8 (L_0 5))]) hCF hK (c_X6_isWon l D cI cJ h_0 h_0_of h_0_kept h_0_column h_0_size h_0_hidden h_0_cell h_0_home h_0_waste h_0_stock h_0_past h_0_start h_0_known h_0_sorted h_0_row h_0_best I_0u2 L_0 x18 hc19) (cwV 0 hts (TBL_V mw_638 mw_639 mw_640 mw_5 mw_641) rfl rfl rfl pmX6_isWon ⟨Nat.le_of_ble_eq_true rfl, Nat.le_of_ble_eq_true rfl⟩) hS hA [0, 1, 2, 3, 4, 5, 6, 7, 8, 9, 10, 11, 12, 13, 14, 15] [] rfl rfl rfl rfl (by decide) rfl rfl rfl hl.1 rfl (Nat.le_of_ble_eq_true rfl) ⟨Nat.zero_le _, Nat.zero_le _⟩ dX6_told_104 rfl (fun H locs hS => ?_)
        refine lv_if_eq (tgt := 114) hx hb dX6_told_107 (by decide) (fun c_20 => ?_) (fun c_20 => ?_)
        · replace hF := ifp hF c_20
          refine lv_iconst (v := (nI 0)) hx hb dX6_told_114 (by decide) ?_
          have e9_0 := Option.some.inj hF
          obtain ⟨f9_0, e9_1⟩ := Prod.mk.inj e9_0
          subst f9_0
          subst e9_1
          exact kret _ _ _ _ hS dX6_told_115
        · replace hF := ifn hF c_20
          refine lv_iconst (v := (nI 1)) hx hb dX6_told_110 (by decide) ?_
          refine lv_goto (tgt := 115) hx hb dX6_told_111 (by decide) ?_
          have e9_0 := Option.some.inj hF
          obtain ⟨f9_0, e9_1⟩ := Prod.mk.inj e9_0
          subst f9_0
          subst e9_1
          exact kret _ _ _ _ hS dX6_told_115
      replace hF := ifn hF c_17
      refine lv_tableOut (tgt := 116) hx hb dX6_told_25 (by have nc_5 := toInt_ne c_5 (k := 0) rfl; have nc_8 := toInt_ne c_8 (k := 1) rfl; have nc_9 := toInt_ne c_9 (k := 2) rfl; have nc_10 := toInt_ne c_10 (k := 3) rfl; have nc_11 := toInt_ne c_11 (k := 4) rfl; have nc_14 := toInt_ne c_14 (k := 5) rfl; have nc_17 := toInt_ne c_17 (k := 6) rfl; omega) (by decide) ?_
      refine lv_aload_n hx hb dX6_told_116 rfl (lv_at hl 0 rfl) ?_
      refine r_get hx hb hts inX6 hown hK hS 0 17 rfl rfl (by decide) q5 rfl dX6_told_117 ?_
      refine lv_iconst (v := (nI 0)) hx hb dX6_told_120 (by decide) ?_
      replace hF := rdA_e hF
      obtain ⟨hi22, x21, ex21, hF⟩ := hF
      refine r_iald hx hb hK hS 5 rfl rfl hi22 dX6_told_121 ex21 ?_
      refine lv_aload_n hx hb dX6_told_122 rfl (lv_at hl 0 rfl) ?_
      refine r_get hx hb hts inX6 hown hK hS 0 17 rfl rfl (by decide) q5 rfl dX6_told_123 ?_
      refine lv_iconst (v := (nI 1)) hx hb dX6_told_126 (by decide) ?_
      replace hF := rdA_e hF
      obtain ⟨hi24, x23, ex23, hF⟩ := hF
      refine r_iald hx hb hK hS 5 rfl rfl hi24 dX6_told_127 ex23 ?_
      refine lv_iadd hx hb dX6_told_128 ?_
      refine lv_aload_n hx hb dX6_told_129 rfl (lv_at hl 0 rfl) ?_
      refine r_get hx hb hts inX6 hown hK hS 0 17 rfl rfl (by decide) q5 rfl dX6_told_130 ?_
      refine lv_iconst (v := (nI 2)) hx hb dX6_told_133 (by decide) ?_
      replace hF := rdA_e hF
      obtain ⟨hi26, x25, ex25, hF⟩ := hF
      refine r_iald hx hb hK hS 5 rfl rfl hi26 dX6_told_134 ex25 ?_
      refine lv_iadd hx hb dX6_told_135 ?_
      refine lv_aload_n hx hb dX6_told_136 rfl (lv_at hl 0 rfl) ?_
      refine r_get hx hb hts inX6 hown hK hS 0 17 rfl rfl (by decide) q5 rfl dX6_told_137 ?_
      refine lv_iconst (v := (nI 3)) hx hb dX6_told_140 (by decide) ?_
      replace hF := rdA_e hF
      obtain ⟨hi28, x27, ex27, hF⟩ := hF
      refine r_iald hx hb hK hS 5 rfl rfl hi28 dX6_told_141 ex27 ?_
      refine lv_iadd hx hb dX6_told_142 ?_
      refine lv_aload_n hx hb dX6_told_143 rfl (lv_at hl 0 rfl) ?_
      refine r_get hx hb hts inX6 hown hK hS 0 17 rfl rfl (by decide) q5 rfl dX6_told_144 ?_
      refine lv_iconst (v := (nI 4)) hx hb dX6_told_147 (by decide) ?_
      replace hF := rdA_e hF
      obtain ⟨hi30, x29, ex29, hF⟩ := hF
      refine r_iald hx hb hK hS 5 rfl rfl hi30 dX6_told_148 ex29 ?_
      refine lv_iadd hx hb dX6_told_149 ?_
      have e9_0 := Option.some.inj hF
      obtain ⟨f9_0, e9_1⟩ := Prod.mk.inj e9_0
      subst f9_0
      subst e9_1
      exact kret _ _ _ _ hS dX6_told_150
    · replace hF := ifp hF c_4
      refine lv_iconst (v := (nI 0)) hx hb dX6_told_22 (by decide) ?_
      have e9_0 := Option.some.inj hF
      obtain ⟨f9_0, e9_1⟩ := Prod.mk.inj e9_0
      subst f9_0
      subst e9_1
      exact kret _ _ _ _ hS dX6_told_23
  unfold F_X6_told at hF
  refine lv_aload_n hx hb dX6_told_0 rfl (lv_at hl 0 rfl) ?_
  refine lv_iload_n hx hb dX6_told_1 rfl (lv_at hl 1 rfl) ?_
  refine lv_iconst (v := (nI 0)) hx hb dX6_told_2 (by decide) ?_
  refine lv_bipush (v := (nI 7)) hx hb dX6_told_3 (by decide) ?_
  replace hF := cal1_e hF
  obtain ⟨x31, hc32, hF⟩ := hF
  refine kS_i (As := [.int v1, .int (nI 0), .int (nI 7)]) (rest := [.ref h_0]) (wr := [(h_0, oX6 h_0_of h_0_kept h_0_column h_0_size h_0_hidden h_0_cell h_0_home h_0_waste h_0_stock h_0_past h_0_start h_0_known h_0_sorted h_0_row h_0_best I_0), (h_0_of, eI cI 9 (I_0 1)), (h_0_kept, eI cI 9 (I_0 2)), (h_0_column, eJ cJ 5 (L_0 0)), (h_0_size, eI cI 5 (I_0 3)), (h_0_hidden, eI cI 5 (I_0 4)), (h_0_cell, eI cI 2 (I_0 5)), (h_0_home, eI cI 4 (I_0 6)), (h_0_waste, eI cI 8 (I_0 7)), (h_0_stock, eI cI 8 (I_0 8)), (h_0_past, eJ cJ 1616 (L_0 1)), (h_0_start, eJ cJ 8 (L_0 2)), (h_0_known, eJ cJ 3216 (L_0 3)), (h_0_sorted, eJ cJ 3216 (L_0 4)), (h_0_row, eI cI 16 (I_0 9)), (h_0_best, eJ cJ 8 (L_0 5))]) (w2 := [(h_0, oX6 h_0_of h_0_kept h_0_column h_0_size h_0_hidden h_0_cell h_0_home h_0_waste h_0_stock h_0_past h_0_start h_0_known h_0_sorted h_0_row h_0_best I_0), (h_0_of, eI cI 9 (I_0 1)), (h_0_kept, eI cI 9 (I_0 2)), (h_0_column, eJ cJ 5 (L_0 0)), (h_0_size, eI cI 5 (I_0 3)), (h_0_hidden, eI cI 5 (I_0 4)), (h_0_cell, eI cI 2 (I_0 5)), (h_0_home, eI cI 4 (I_0 6)), (h_0_waste, eI cI 8 (I_0 7)), (h_0_stock, eI cI 8 (I_0 8)), (h_0_past, eJ cJ 1616 (L_0 1)), (h_0_start, eJ cJ 8 (L_0 2)), (h_0_known, eJ cJ 3216 (L_0 3)), (h_0_sorted, eJ cJ 3216 (L_0 4)), (h_0_row, eI cI 16 (I_0 9)), (h_0_best, eJ cJ 8 (L_0 5))]) hCF hK (c_X6_in l D cI cJ v1 (nI 0) (nI 7) x31 hc32) (va_cwS 3 hts (TBL_S mw_234 mw_235 mw_5 mw_236) rfl rfl rfl pmX6_in.2 ⟨Nat.le_of_ble_eq_true rfl, Nat.le_of_ble_eq_true rfl⟩) hS hA [] [0, 1, 2, 3, 4, 5, 6, 7, 8, 9, 10, 11, 12, 13, 14, 15] rfl rfl rfl rfl (by decide) rfl hl.1 rfl (Nat.le_of_ble_eq_true rfl) ⟨Nat.zero_le _, Nat.zero_le _⟩ dX6_told_5 rfl (fun H locs hS => ?_)
  refine lv_if_eq (tgt := 15) hx hb dX6_told_8 (by decide) (fun c_33 => ?_) (fun c_33 => ?_)
  · replace hF := ifp hF c_33
    refine lv_iconst (v := (nI 1)) hx hb dX6_told_15 (by decide) ?_
    exact B16 I_0 v1 (nI 1) _ _ _ hS (lv_sub hl [0, 1] rfl) hF
  · replace hF := ifn hF c_33
    refine lv_iconst (v := (nI 0)) hx hb dX6_told_11 (by decide) ?_
    refine lv_goto (tgt := 16) hx hb dX6_told_12 (by decide) ?_
    exact B16 I_0 v1 (nI 0) _ _ _ hS (lv_sub hl [0, 1] rfl) hF
set_option maxHeartbeats 4000000 in
set_option maxRecDepth 100000 in
theorem c_X6_isAhead (l : Launch) (D : va_G) (cI cJ : ClassId) (h_0 h_0_of h_0_kept h_0_column h_0_size h_0_hidden h_0_cell h_0_home h_0_waste h_0_stock h_0_past h_0_start h_0_known h_0_sorted h_0_row h_0_best : Nat) (I_0 : Nat → Nat → Int32) (L_0 : Nat → Nat → Int64) (v1 : Int32) (v2 : Int32) (rv : Int32) (hF : F_X6_isAhead I_0 L_0 v1 v2 = some rv) : CtI l D [(cI, .int), (cJ, .long)] yX6_isAhead wtX6_isAhead ({ frames := 0, cells := 0, slots := 0, locals := 0 } : Room) [.ref h_0, .int v1, .int v2] [(h_0, oX6 h_0_of h_0_kept h_0_column h_0_size h_0_hidden h_0_cell h_0_home h_0_waste h_0_stock h_0_past h_0_start h_0_known h_0_sorted h_0_row h_0_best I_0), (h_0_of, eI cI 9 (I_0 1)), (h_0_kept, eI cI 9 (I_0 2)), (h_0_column, eJ cJ 5 (L_0 0)), (h_0_size, eI cI 5 (I_0 3)), (h_0_hidden, eI cI 5 (I_0 4)), (h_0_cell, eI cI 2 (I_0 5)), (h_0_home, eI cI 4 (I_0 6)), (h_0_waste, eI cI 8 (I_0 7)), (h_0_stock, eI cI 8 (I_0 8)), (h_0_past, eJ cJ 1616 (L_0 1)), (h_0_start, eJ cJ 8 (L_0 2)), (h_0_known, eJ cJ 3216 (L_0 3)), (h_0_sorted, eJ cJ 3216 (L_0 4)), (h_0_row, eI cI 16 (I_0 9)), (h_0_best, eJ cJ 8 (L_0 5))] [(h_0, oX6 h_0_of h_0_kept h_0_column h_0_size h_0_hidden h_0_cell h_0_home h_0_waste h_0_stock h_0_past h_0_start h_0_known h_0_sorted h_0_row h_0_best I_0), (h_0_of, eI cI 9 (I_0 1)), (h_0_kept, eI cI 9 (I_0 2)), (h_0_column, eJ cJ 5 (L_0 0)), (h_0_size, eI cI 5 (I_0 3)), (h_0_hidden, eI cI 5 (I_0 4)), (h_0_cell, eI cI 2 (I_0 5)), (h_0_home, eI cI 4 (I_0 6)), (h_0_waste, eI cI 8 (I_0 7)), (h_0_stock, eI cI 8 (I_0 8)), (h_0_past, eJ cJ 1616 (L_0 1)), (h_0_start, eJ cJ 8 (L_0 2)), (h_0_known, eJ cJ 3216 (L_0 3)), (h_0_sorted, eJ cJ 3216 (L_0 4)), (h_0_row, eI cI 16 (I_0 9)), (h_0_best, eJ cJ 8 (L_0 5))] rv := by
  refine CtZ.of (cc := cX6_isAhead) (maxL := 7) (by decide) rfl (Nat.le_of_ble_eq_true rfl) ?_
  intro p e s m args below meth c A H0 Q ls X hS hl kret
  have hCF := X.1
  obtain ⟨⟨hx, hb, hml, hown, hts⟩, hK, hA⟩ := X
  have hl : lv_has ls 7 [(0, .ref h_0), (1, .int v1), (2, .int v2)] := hl
  have q0 := hts (.fieldLink RX6 36 "PatienceryModel" "size" "[I") (List.mem_cons_of_mem _ mw_164)
  have inX6 : ∀ w ∈ u_ws RX6 TX6 32, w ∈ wtX6_isAhead := fun w h => List.mem_cons_of_mem _ (inlX6 w h)
  have q2 := hts (.fieldLink RX6 39 "PatienceryModel" "hidden" "[I") (List.mem_cons_of_mem _ mw_165)
  have q3 := hts (.fieldLink RX6 32 "PatienceryModel" "column" "[J") (List.mem_cons_of_mem _ mw_163)
  unfold F_X6_isAhead at hF
  refine lv_aload_n hx hb dX6_isAhead_0 rfl (lv_at hl 0 rfl) ?_
  refine r_get hx hb hts inX6 hown hK hS 0 16 rfl rfl (by decide) q0 rfl dX6_isAhead_1 ?_
  refine lv_iload_n hx hb dX6_isAhead_4 rfl (lv_at hl 1 rfl) ?_
  replace hF := rdA_e hF
  obtain ⟨hi2, x1, ex1, hF⟩ := hF
  refine r_iald hx hb hK hS 4 rfl rfl hi2 dX6_isAhead_5 ex1 ?_
  refine lv_i2l hx hb dX6_isAhead_6 rfl ?_
  refine lv_aload_n hx hb dX6_isAhead_7 rfl (lv_at hl 0 rfl) ?_
  refine r_get hx hb hts inX6 hown hK hS 0 17 rfl rfl (by decide) q2 rfl dX6_isAhead_8 ?_
  refine lv_iload_n hx hb dX6_isAhead_11 rfl (lv_at hl 1 rfl) ?_
  replace hF := rdA_e hF
  obtain ⟨hi4, x3, ex3, hF⟩ := hF
  refine r_iald hx hb hK hS 5 rfl rfl hi4 dX6_isAhead_12 ex3 ?_
  refine lv_i2l hx hb dX6_isAhead_13 rfl ?_
  refine lv_iconst (v := (nI 5)) hx hb dX6_isAhead_14 (by decide) ?_
  refine lv_lshl hx hb dX6_isAhead_15 rfl ?_
  refine lv_lor hx hb dX6_isAhead_16 ?_
  refine lv_lstore_n (lv' := [(3, .long ((x1.toInt64) ||| ((x3.toInt64) <<< (((nI 5) : Int32).toInt64 &&& 63)))), (0, .ref h_0), (1, .int v1), (2, .int v2)]) hx hb dX6_isAhead_17 rfl hl (by decide) rfl (fun ls hl => ?_)
  refine lv_aload_n hx hb dX6_isAhead_18 rfl (lv_at hl 1 rfl) ?_
  refine r_get hx hb hts inX6 hown hK hS 0 16 rfl rfl (by decide) q0 rfl dX6_isAhead_19 ?_
  refine lv_iload_n hx hb dX6_isAhead_22 rfl (lv_at hl 3 rfl) ?_
  replace hF := rdA_e hF
  obtain ⟨hi6, x5, ex5, hF⟩ := hF
  refine r_iald hx hb hK hS 4 rfl rfl hi6 dX6_isAhead_23 ex5 ?_
  refine lv_i2l hx hb dX6_isAhead_24 rfl ?_
  refine lv_aload_n hx hb dX6_isAhead_25 rfl (lv_at hl 1 rfl) ?_
  refine r_get hx hb hts inX6 hown hK hS 0 17 rfl rfl (by decide) q2 rfl dX6_isAhead_26 ?_
  refine lv_iload_n hx hb dX6_isAhead_29 rfl (lv_at hl 3 rfl) ?_
  replace hF := rdA_e hF
  obtain ⟨hi8, x7, ex7, hF⟩ := hF
  refine r_iald hx hb hK hS 5 rfl rfl hi8 dX6_isAhead_30 ex7 ?_
  refine lv_i2l hx hb dX6_isAhead_31 rfl ?_
  refine lv_iconst (v := (nI 5)) hx hb dX6_isAhead_32 (by decide) ?_
  refine lv_lshl hx hb dX6_isAhead_33 rfl ?_
  refine lv_lor hx hb dX6_isAhead_34 ?_
  refine lv_lstore (lv' := [(5, .long ((x5.toInt64) ||| ((x7.toInt64) <<< (((nI 5) : Int32).toInt64 &&& 63)))), (3, .long ((x1.toInt64) ||| ((x3.toInt64) <<< (((nI 5) : Int32).toInt64 &&& 63)))), (0, .ref h_0), (1, .int v1), (2, .int v2)]) hx hb dX6_isAhead_35 hl (by decide) rfl (fun ls hl => ?_)
  refine lv_aload_n hx hb dX6_isAhead_37 rfl (lv_at hl 2 rfl) ?_
  refine r_get hx hb hts inX6 hown hK hS 0 15 rfl rfl (by decide) q3 rfl dX6_isAhead_38 ?_
  refine lv_iload_n hx hb dX6_isAhead_41 rfl (lv_at hl 3 rfl) ?_
  replace hF := rdA_e hF
  obtain ⟨hi10, x9, ex9, hF⟩ := hF
  refine r_lald hx hb hK hS 3 rfl rfl hi10 dX6_isAhead_42 ex9 ?_
  refine lv_aload_n hx hb dX6_isAhead_43 rfl (lv_at hl 2 rfl) ?_
  refine r_get hx hb hts inX6 hown hK hS 0 15 rfl rfl (by decide) q3 rfl dX6_isAhead_44 ?_
  refine lv_iload_n hx hb dX6_isAhead_47 rfl (lv_at hl 4 rfl) ?_
  replace hF := rdA_e hF
  obtain ⟨hi12, x11, ex11, hF⟩ := hF
  refine r_lald hx hb hK hS 3 rfl rfl hi12 dX6_isAhead_48 ex11 ?_
  refine W.lcmp hx hb dX6_isAhead_49 ?_
  refine lv_if_lt (tgt := 88) hx hb dX6_isAhead_50 (by decide) (fun c_13 => ?_) (fun c_13 => ?_)
  · replace hF := ifp hF c_13
    refine lv_iconst (v := (nI 1)) hx hb dX6_isAhead_88 (by decide) ?_
    refine lv_goto (tgt := 93) hx hb dX6_isAhead_89 (by decide) ?_
    replace hF := zb_e hF
    obtain ⟨h01_14, hF⟩ := hF
    have e9_0 := Option.some.inj hF
    subst e9_0
    exact kret _ _ _ _ h01_14 hS dX6_isAhead_93
  · replace hF := ifn hF c_13
    refine lv_aload_n hx hb dX6_isAhead_53 rfl (lv_at hl 2 rfl) ?_
    refine r_get hx hb hts inX6 hown hK hS 0 15 rfl rfl (by decide) q3 rfl dX6_isAhead_54 ?_
    refine lv_iload_n hx hb dX6_isAhead_57 rfl (lv_at hl 3 rfl) ?_
    replace hF := rdA_e hF
    obtain ⟨hi16, x15, ex15, hF⟩ := hF
    refine r_lald hx hb hK hS 3 rfl rfl hi16 dX6_isAhead_58 ex15 ?_
    refine lv_aload_n hx hb dX6_isAhead_59 rfl (lv_at hl 2 rfl) ?_
    refine r_get hx hb hts inX6 hown hK hS 0 15 rfl rfl (by decide) q3 rfl dX6_isAhead_60 ?_
    refine lv_iload_n hx hb dX6_isAhead_63 rfl (lv_at hl 4 rfl) ?_
    replace hF := rdA_e hF
    obtain ⟨hi18, x17, ex17, hF⟩ := hF
    refine r_lald hx hb hK hS 3 rfl rfl hi18 dX6_isAhead_64 ex17 ?_
    refine W.lcmp hx hb dX6_isAhead_65 ?_
    refine lv_if_ne (tgt := 92) hx hb dX6_isAhead_66 (by decide) (fun c_19 => ?_) (fun c_19 => ?_)
    · replace hF := ifn hF c_19
      refine lv_iconst (v := (nI 0)) hx hb dX6_isAhead_92 (by decide) ?_
      replace hF := zb_e hF
      obtain ⟨h01_20, hF⟩ := hF
      have e9_0 := Option.some.inj hF
      subst e9_0
      exact kret _ _ _ _ h01_20 hS dX6_isAhead_93
    · replace hF := ifp hF c_19
      refine lv_lload_n hx hb dX6_isAhead_69 rfl (lv_at hl 1 rfl) ?_
      refine lv_lload hx hb dX6_isAhead_70 (lv_at hl 0 rfl) ?_
      refine W.lcmp hx hb dX6_isAhead_72 ?_
      refine lv_if_lt (tgt := 88) hx hb dX6_isAhead_73 (by decide) (fun c_21 => ?_) (fun c_21 => ?_)
      · replace hF := ifp hF c_21
        refine lv_iconst (v := (nI 1)) hx hb dX6_isAhead_88 (by decide) ?_
        refine lv_goto (tgt := 93) hx hb dX6_isAhead_89 (by decide) ?_
        replace hF := zb_e hF
        obtain ⟨h01_22, hF⟩ := hF
        have e9_0 := Option.some.inj hF
        subst e9_0
        exact kret _ _ _ _ h01_22 hS dX6_isAhead_93
      · replace hF := ifn hF c_21
        refine lv_lload_n hx hb dX6_isAhead_76 rfl (lv_at hl 1 rfl) ?_
        refine lv_lload hx hb dX6_isAhead_77 (lv_at hl 0 rfl) ?_
        refine W.lcmp hx hb dX6_isAhead_79 ?_
        refine lv_if_ne (tgt := 92) hx hb dX6_isAhead_80 (by decide) (fun c_23 => ?_) (fun c_23 => ?_)
        · replace hF := ifn hF c_23
          refine lv_iconst (v := (nI 0)) hx hb dX6_isAhead_92 (by decide) ?_
          replace hF := zb_e hF
          obtain ⟨h01_24, hF⟩ := hF
          have e9_0 := Option.some.inj hF
          subst e9_0
          exact kret _ _ _ _ h01_24 hS dX6_isAhead_93
        · replace hF := ifp hF c_23
          refine lv_iload_n hx hb dX6_isAhead_83 rfl (lv_at hl 3 rfl) ?_
          refine lv_iload_n hx hb dX6_isAhead_84 rfl (lv_at hl 4 rfl) ?_
          refine lv_icmp_ge (tgt := 92) hx hb dX6_isAhead_85 (by decide) (fun c_25 => ?_) (fun c_25 => ?_)
          · replace hF := ifp hF c_25
            refine lv_iconst (v := (nI 0)) hx hb dX6_isAhead_92 (by decide) ?_
            replace hF := zb_e hF
            obtain ⟨h01_26, hF⟩ := hF
            have e9_0 := Option.some.inj hF
            subst e9_0
            exact kret _ _ _ _ h01_26 hS dX6_isAhead_93
          · replace hF := ifn hF c_25
            refine lv_iconst (v := (nI 1)) hx hb dX6_isAhead_88 (by decide) ?_
            refine lv_goto (tgt := 93) hx hb dX6_isAhead_89 (by decide) ?_
            replace hF := zb_e hF
            obtain ⟨h01_27, hF⟩ := hF
            have e9_0 := Option.some.inj hF
            subst e9_0
            exact kret _ _ _ _ h01_27 hS dX6_isAhead_93
set_option maxHeartbeats 4000000 in
set_option maxRecDepth 100000 in
theorem c_X6_sort_sorted (l : Launch) (D : va_G) (cI cJ : ClassId) (h_0 h_0_of h_0_kept h_0_column h_0_size h_0_hidden h_0_cell h_0_home h_0_waste h_0_stock h_0_past h_0_start h_0_known h_0_sorted h_0_row h_0_best : Nat) (I_0 : Nat → Nat → Int32) (L_0 : Nat → Nat → Int64) (v2 : Int32) (r_L_0 : Nat → Nat → Int64) (hF : F_X6_sort I_0 4 3216 L_0 v2 = some r_L_0) : CtV l D [(cI, .int), (cJ, .long)] yX6_sort wtX6_sort ({ frames := 1, cells := 0, slots := 0, locals := 29 } : Room) [.ref h_0, .ref h_0_sorted, .int v2] [(h_0, oX6 h_0_of h_0_kept h_0_column h_0_size h_0_hidden h_0_cell h_0_home h_0_waste h_0_stock h_0_past h_0_start h_0_known h_0_sorted h_0_row h_0_best I_0), (h_0_of, eI cI 9 (I_0 1)), (h_0_kept, eI cI 9 (I_0 2)), (h_0_column, eJ cJ 5 (L_0 0)), (h_0_size, eI cI 5 (I_0 3)), (h_0_hidden, eI cI 5 (I_0 4)), (h_0_cell, eI cI 2 (I_0 5)), (h_0_home, eI cI 4 (I_0 6)), (h_0_waste, eI cI 8 (I_0 7)), (h_0_stock, eI cI 8 (I_0 8)), (h_0_past, eJ cJ 1616 (L_0 1)), (h_0_start, eJ cJ 8 (L_0 2)), (h_0_known, eJ cJ 3216 (L_0 3)), (h_0_sorted, eJ cJ 3216 (L_0 4)), (h_0_row, eI cI 16 (I_0 9)), (h_0_best, eJ cJ 8 (L_0 5))] [(h_0, oX6 h_0_of h_0_kept h_0_column h_0_size h_0_hidden h_0_cell h_0_home h_0_waste h_0_stock h_0_past h_0_start h_0_known h_0_sorted h_0_row h_0_best I_0), (h_0_of, eI cI 9 (I_0 1)), (h_0_kept, eI cI 9 (I_0 2)), (h_0_column, eJ cJ 5 (r_L_0 0)), (h_0_size, eI cI 5 (I_0 3)), (h_0_hidden, eI cI 5 (I_0 4)), (h_0_cell, eI cI 2 (I_0 5)), (h_0_home, eI cI 4 (I_0 6)), (h_0_waste, eI cI 8 (I_0 7)), (h_0_stock, eI cI 8 (I_0 8)), (h_0_past, eJ cJ 1616 (r_L_0 1)), (h_0_start, eJ cJ 8 (r_L_0 2)), (h_0_known, eJ cJ 3216 (r_L_0 3)), (h_0_sorted, eJ cJ 3216 (r_L_0 4)), (h_0_row, eI cI 16 (I_0 9)), (h_0_best, eJ cJ 8 (r_L_0 5))] := by
  refine CtV.of (cc := cX6_sort) (maxL := 9) (by decide) rfl (Nat.le_of_ble_eq_true rfl) ?_
  intro p e s m args below meth c A H0 Q ls X hS hl kret
  have hCF := X.1
  obtain ⟨⟨hx, hb, hml, hown, hts⟩, hK, hA⟩ := X
  have hl : lv_has ls 9 [(0, .ref h_0), (1, .ref h_0_sorted), (2, .int v2)] := hl
  have q0 := hts (.fieldLink RX6 42 "PatienceryModel" "cell" "[I") (List.mem_cons_of_mem _ mw_166)
  have inX6 : ∀ w ∈ u_ws RX6 TX6 32, w ∈ wtX6_sort := fun w h => List.mem_cons_of_mem _ (inlX6 w h)
  have q2 := hts (.fieldLink RX6 25 "PatienceryModel" "of" "[I") (List.mem_cons_of_mem _ mw_161)
  have q3 := hts (.fieldLink RX6 69 "PatienceryModel" "best" "[J") (List.mem_cons_of_mem _ mw_175)
  have q4 := hts (.fieldLink RX6 32 "PatienceryModel" "column" "[J") (List.mem_cons_of_mem _ mw_163)
  have q5 := hts (.fieldLink RX6 36 "PatienceryModel" "size" "[I") (List.mem_cons_of_mem _ mw_164)
  have q6 := hts (.fieldLink RX6 39 "PatienceryModel" "hidden" "[I") (List.mem_cons_of_mem _ mw_165)
  have B218 : ∀ (L_0 : Nat → Nat → Int64) (v2 : Int32) (v5 : Int64) (s0 : Int64) (H : Heap) (locs : List Loc) (ls : Array Slot), HS D A H0 [(h_0, oX6 h_0_of h_0_kept h_0_column h_0_size h_0_hidden h_0_cell h_0_home h_0_waste h_0_stock h_0_past h_0_start h_0_known h_0_sorted h_0_row h_0_best I_0), (h_0_of, eI cI 9 (I_0 1)), (h_0_kept, eI cI 9 (I_0 2)), (h_0_column, eJ cJ 5 (L_0 0)), (h_0_size, eI cI 5 (I_0 3)), (h_0_hidden, eI cI 5 (I_0 4)), (h_0_cell, eI cI 2 (I_0 5)), (h_0_home, eI cI 4 (I_0 6)), (h_0_waste, eI cI 8 (I_0 7)), (h_0_stock, eI cI 8 (I_0 8)), (h_0_past, eJ cJ 1616 (L_0 1)), (h_0_start, eJ cJ 8 (L_0 2)), (h_0_known, eJ cJ 3216 (L_0 3)), (h_0_sorted, eJ cJ 3216 (L_0 4)), (h_0_row, eI cI 16 (I_0 9)), (h_0_best, eJ cJ 8 (L_0 5))] H locs → lv_has ls 9 [(1, .ref h_0_sorted), (2, .int v2), (5, .long v5)] → F_X6_sort_b218 I_0 4 3216  L_0 v2 v5 s0 = some r_L_0 → W p l e ({ frames := 1, cells := 0, slots := 0, locals := 29 } : Room) s m args below meth c H locs 0 0 Q (F0 m 218 ls [.long s0]) := by
    intro L_0 v2 v5 s0 H locs ls hS hl hF
    unfold F_X6_sort_b218 at hF
    refine lv_lstore (lv' := [(7, .long s0), (1, .ref h_0_sorted), (2, .int v2), (5, .long v5)]) hx hb dX6_sort_218 hl (by decide) rfl (fun ls hl => ?_)
    refine lv_aload_n hx hb dX6_sort_220 rfl (lv_at hl 1 rfl) ?_
    refine lv_iload_n hx hb dX6_sort_221 rfl (lv_at hl 2 rfl) ?_
    refine lv_bipush (v := (nI 6)) hx hb dX6_sort_222 (by decide) ?_
    refine lv_iadd hx hb dX6_sort_224 ?_
    refine lv_aload_n hx hb dX6_sort_225 rfl (lv_at hl 1 rfl) ?_
    refine lv_iload_n hx hb dX6_sort_226 rfl (lv_at hl 2 rfl) ?_
    refine lv_bipush (v := (nI 6)) hx hb dX6_sort_227 (by decide) ?_
    refine lv_iadd hx hb dX6_sort_229 ?_
    replace hF := rdA_e hF
    obtain ⟨hi2, x1, ex1, hF⟩ := hF
    refine r_lald hx hb hK hS 13 rfl rfl hi2 dX6_sort_230 ex1 ?_
    refine lv_bipush (v := (nI 10)) hx hb dX6_sort_231 (by decide) ?_
    refine lv_lushr hx hb dX6_sort_233 rfl ?_
    refine lv_bipush (v := (nI 10)) hx hb dX6_sort_234 (by decide) ?_
    refine lv_lshl hx hb dX6_sort_236 rfl ?_
    refine lv_lload hx hb dX6_sort_237 (lv_at hl 3 rfl) ?_
    refine lv_lconst (v := (lN 1)) hx hb dX6_sort_239 (by decide) ?_
    refine lv_ladd hx hb dX6_sort_240 ?_
    refine lv_lor hx hb dX6_sort_241 ?_
    refine lv_lload hx hb dX6_sort_242 (lv_at hl 0 rfl) ?_
    refine lv_lconst (v := (lN 1)) hx hb dX6_sort_244 (by decide) ?_
    refine lv_ladd hx hb dX6_sort_245 ?_
    refine lv_iconst (v := (nI 5)) hx hb dX6_sort_246 (by decide) ?_
    refine lv_lshl hx hb dX6_sort_247 rfl ?_
    refine lv_lor hx hb dX6_sort_248 ?_
    replace hF := wrJ_e hF
    obtain ⟨hi4, L_0u3, eL_0u3, hF⟩ := hF
    refine r_last (w2 := [(h_0, oX6 h_0_of h_0_kept h_0_column h_0_size h_0_hidden h_0_cell h_0_home h_0_waste h_0_stock h_0_past h_0_start h_0_known h_0_sorted h_0_row h_0_best I_0), (h_0_of, eI cI 9 (I_0 1)), (h_0_kept, eI cI 9 (I_0 2)), (h_0_column, eJ cJ 5 (L_0u3 0)), (h_0_size, eI cI 5 (I_0 3)), (h_0_hidden, eI cI 5 (I_0 4)), (h_0_cell, eI cI 2 (I_0 5)), (h_0_home, eI cI 4 (I_0 6)), (h_0_waste, eI cI 8 (I_0 7)), (h_0_stock, eI cI 8 (I_0 8)), (h_0_past, eJ cJ 1616 (L_0u3 1)), (h_0_start, eJ cJ 8 (L_0u3 2)), (h_0_known, eJ cJ 3216 (L_0u3 3)), (h_0_sorted, eJ cJ 3216 (L_0u3 4)), (h_0_row, eI cI 16 (I_0 9)), (h_0_best, eJ cJ 8 (L_0u3 5))]) hx hb hK hS 13 rfl rfl hi4 dX6_sort_249 (by rw [eL_0u3]; rfl) (fun H locs hS => ?_)
    have e9_0 := Option.some.inj hF
    subst e9_0
    exact kret _ _ _ _ hS dX6_sort_250
  have B184 : ∀ (L_0 : Nat → Nat → Int64) (v2 : Int32) (s0 : Int64) (H : Heap) (locs : List Loc) (ls : Array Slot), HS D A H0 [(h_0, oX6 h_0_of h_0_kept h_0_column h_0_size h_0_hidden h_0_cell h_0_home h_0_waste h_0_stock h_0_past h_0_start h_0_known h_0_sorted h_0_row h_0_best I_0), (h_0_of, eI cI 9 (I_0 1)), (h_0_kept, eI cI 9 (I_0 2)), (h_0_column, eJ cJ 5 (L_0 0)), (h_0_size, eI cI 5 (I_0 3)), (h_0_hidden, eI cI 5 (I_0 4)), (h_0_cell, eI cI 2 (I_0 5)), (h_0_home, eI cI 4 (I_0 6)), (h_0_waste, eI cI 8 (I_0 7)), (h_0_stock, eI cI 8 (I_0 8)), (h_0_past, eJ cJ 1616 (L_0 1)), (h_0_start, eJ cJ 8 (L_0 2)), (h_0_known, eJ cJ 3216 (L_0 3)), (h_0_sorted, eJ cJ 3216 (L_0 4)), (h_0_row, eI cI 16 (I_0 9)), (h_0_best, eJ cJ 8 (L_0 5))] H locs → lv_has ls 9 [(0, .ref h_0), (1, .ref h_0_sorted), (2, .int v2)] → F_X6_sort_b184 I_0 4 3216  L_0 v2 s0 = some r_L_0 → W p l e ({ frames := 1, cells := 0, slots := 0, locals := 29 } : Room) s m args below meth c H locs 0 0 Q (F0 m 184 ls [.long s0]) := by
    intro L_0 v2 s0 H locs ls hS hl hF
    unfold F_X6_sort_b184 at hF
    refine lv_lstore (lv' := [(5, .long s0), (0, .ref h_0), (1, .ref h_0_sorted), (2, .int v2)]) hx hb dX6_sort_184 hl (by decide) rfl (fun ls hl => ?_)
    refine lv_aload_n hx hb dX6_sort_186 rfl (lv_at hl 1 rfl) ?_
    refine r_get hx hb hts inX6 hown hK hS 0 18 rfl rfl (by decide) q0 rfl dX6_sort_187 ?_
    refine lv_iconst (v := (nI 0)) hx hb dX6_sort_190 (by decide) ?_
    replace hF := rdA_e hF
    obtain ⟨hi6, x5, ex5, hF⟩ := hF
    refine r_iald hx hb hK hS 6 rfl rfl hi6 dX6_sort_191 ex5 ?_
    refine lv_aload_n hx hb dX6_sort_192 rfl (lv_at hl 1 rfl) ?_
    refine r_get hx hb hts inX6 hown hK hS 0 18 rfl rfl (by decide) q0 rfl dX6_sort_193 ?_
    refine lv_iconst (v := (nI 1)) hx hb dX6_sort_196 (by decide) ?_
    replace hF := rdA_e hF
    obtain ⟨hi8, x7, ex7, hF⟩ := hF
    refine r_iald hx hb hK hS 6 rfl rfl hi8 dX6_sort_197 ex7 ?_
    refine lv_icmp_ge (tgt := 211) hx hb dX6_sort_198 (by decide) (fun c_9 => ?_) (fun c_9 => ?_)
    · replace hF := ifp hF c_9
      refine lv_aload_n hx hb dX6_sort_211 rfl (lv_at hl 1 rfl) ?_
      refine r_get hx hb hts inX6 hown hK hS 0 18 rfl rfl (by decide) q0 rfl dX6_sort_212 ?_
      refine lv_iconst (v := (nI 0)) hx hb dX6_sort_215 (by decide) ?_
      replace hF := rdA_e hF
      obtain ⟨hi11, x10, ex10, hF⟩ := hF
      refine r_iald hx hb hK hS 6 rfl rfl hi11 dX6_sort_216 ex10 ?_
      refine lv_i2l hx hb dX6_sort_217 rfl ?_
      exact B218 L_0 v2 s0 (x10.toInt64) _ _ _ hS (lv_sub hl [2, 3, 0] rfl) hF
    · replace hF := ifn hF c_9
      refine lv_aload_n hx hb dX6_sort_201 rfl (lv_at hl 1 rfl) ?_
      refine r_get hx hb hts inX6 hown hK hS 0 18 rfl rfl (by decide) q0 rfl dX6_sort_202 ?_
      refine lv_iconst (v := (nI 1)) hx hb dX6_sort_205 (by decide) ?_
      replace hF := rdA_e hF
      obtain ⟨hi13, x12, ex12, hF⟩ := hF
      refine r_iald hx hb hK hS 6 rfl rfl hi13 dX6_sort_206 ex12 ?_
      refine lv_i2l hx hb dX6_sort_207 rfl ?_
      refine lv_goto (tgt := 218) hx hb dX6_sort_208 (by decide) ?_
      exact B218 L_0 v2 s0 (x12.toInt64) _ _ _ hS (lv_sub hl [2, 3, 0] rfl) hF
  have B146 : ∀ (L_0 : Nat → Nat → Int64) (v2 : Int32) (v3 : Int64) (H : Heap) (locs : List Loc) (ls : Array Slot), HS D A H0 [(h_0, oX6 h_0_of h_0_kept h_0_column h_0_size h_0_hidden h_0_cell h_0_home h_0_waste h_0_stock h_0_past h_0_start h_0_known h_0_sorted h_0_row h_0_best I_0), (h_0_of, eI cI 9 (I_0 1)), (h_0_kept, eI cI 9 (I_0 2)), (h_0_column, eJ cJ 5 (L_0 0)), (h_0_size, eI cI 5 (I_0 3)), (h_0_hidden, eI cI 5 (I_0 4)), (h_0_cell, eI cI 2 (I_0 5)), (h_0_home, eI cI 4 (I_0 6)), (h_0_waste, eI cI 8 (I_0 7)), (h_0_stock, eI cI 8 (I_0 8)), (h_0_past, eJ cJ 1616 (L_0 1)), (h_0_start, eJ cJ 8 (L_0 2)), (h_0_known, eJ cJ 3216 (L_0 3)), (h_0_sorted, eJ cJ 3216 (L_0 4)), (h_0_row, eI cI 16 (I_0 9)), (h_0_best, eJ cJ 8 (L_0 5))] H locs → lv_has ls 9 [(0, .ref h_0), (1, .ref h_0_sorted), (2, .int v2), (3, .long v3)] → F_X6_sort_b146 I_0 4 3216  L_0 v2 v3 = some r_L_0 → W p l e ({ frames := 1, cells := 0, slots := 0, locals := 29 } : Room) s m args below meth c H locs 0 0 Q (F0 m 146 ls []) := by
    intro L_0 v2 v3 H locs ls hS hl hF
    unfold F_X6_sort_b146 at hF
    refine lv_aload_n hx hb dX6_sort_146 rfl (lv_at hl 1 rfl) ?_
    refine lv_iload_n hx hb dX6_sort_147 rfl (lv_at hl 2 rfl) ?_
    refine lv_iconst (v := (nI 5)) hx hb dX6_sort_148 (by decide) ?_
    refine lv_iadd hx hb dX6_sort_149 ?_
    refine lv_lload_n hx hb dX6_sort_150 rfl (lv_at hl 3 rfl) ?_
    replace hF := wrJ_e hF
    obtain ⟨hi15, L_0u14, eL_0u14, hF⟩ := hF
    refine r_last (w2 := [(h_0, oX6 h_0_of h_0_kept h_0_column h_0_size h_0_hidden h_0_cell h_0_home h_0_waste h_0_stock h_0_past h_0_start h_0_known h_0_sorted h_0_row h_0_best I_0), (h_0_of, eI cI 9 (I_0 1)), (h_0_kept, eI cI 9 (I_0 2)), (h_0_column, eJ cJ 5 (L_0u14 0)), (h_0_size, eI cI 5 (I_0 3)), (h_0_hidden, eI cI 5 (I_0 4)), (h_0_cell, eI cI 2 (I_0 5)), (h_0_home, eI cI 4 (I_0 6)), (h_0_waste, eI cI 8 (I_0 7)), (h_0_stock, eI cI 8 (I_0 8)), (h_0_past, eJ cJ 1616 (L_0u14 1)), (h_0_start, eJ cJ 8 (L_0u14 2)), (h_0_known, eJ cJ 3216 (L_0u14 3)), (h_0_sorted, eJ cJ 3216 (L_0u14 4)), (h_0_row, eI cI 16 (I_0 9)), (h_0_best, eJ cJ 8 (L_0u14 5))]) hx hb hK hS 13 rfl rfl hi15 dX6_sort_151 (by rw [eL_0u14]; rfl) (fun H locs hS => ?_)
    refine lv_aload_n hx hb dX6_sort_152 rfl (lv_at hl 0 rfl) ?_
    refine r_get hx hb hts inX6 hown hK hS 0 18 rfl rfl (by decide) q0 rfl dX6_sort_153 ?_
    refine lv_iconst (v := (nI 0)) hx hb dX6_sort_156 (by decide) ?_
    replace hF := rdA_e hF
    obtain ⟨hi17, x16, ex16, hF⟩ := hF
    refine r_iald hx hb hK hS 6 rfl rfl hi17 dX6_sort_157 ex16 ?_
    refine lv_aload_n hx hb dX6_sort_158 rfl (lv_at hl 0 rfl) ?_
    refine r_get hx hb hts inX6 hown hK hS 0 18 rfl rfl (by decide) q0 rfl dX6_sort_159 ?_
    refine lv_iconst (v := (nI 1)) hx hb dX6_sort_162 (by decide) ?_
    replace hF := rdA_e hF
    obtain ⟨hi19, x18, ex18, hF⟩ := hF
    refine r_iald hx hb hK hS 6 rfl rfl hi19 dX6_sort_163 ex18 ?_
    refine lv_icmp_ge (tgt := 177) hx hb dX6_sort_164 (by decide) (fun c_20 => ?_) (fun c_20 => ?_)
    · replace hF := ifp hF c_20
      refine lv_aload_n hx hb dX6_sort_177 rfl (lv_at hl 0 rfl) ?_
      refine r_get hx hb hts inX6 hown hK hS 0 18 rfl rfl (by decide) q0 rfl dX6_sort_178 ?_
      refine lv_iconst (v := (nI 1)) hx hb dX6_sort_181 (by decide) ?_
      replace hF := rdA_e hF
      obtain ⟨hi22, x21, ex21, hF⟩ := hF
      refine r_iald hx hb hK hS 6 rfl rfl hi22 dX6_sort_182 ex21 ?_
      refine lv_i2l hx hb dX6_sort_183 rfl ?_
      exact B184 L_0u14 v2 (x21.toInt64) _ _ _ hS (lv_sub hl [0, 1, 2] rfl) hF
    · replace hF := ifn hF c_20
      refine lv_aload_n hx hb dX6_sort_167 rfl (lv_at hl 0 rfl) ?_
      refine r_get hx hb hts inX6 hown hK hS 0 18 rfl rfl (by decide) q0 rfl dX6_sort_168 ?_
      refine lv_iconst (v := (nI 0)) hx hb dX6_sort_171 (by decide) ?_
      replace hF := rdA_e hF
      obtain ⟨hi24, x23, ex23, hF⟩ := hF
      refine r_iald hx hb hK hS 6 rfl rfl hi24 dX6_sort_172 ex23 ?_
      refine lv_i2l hx hb dX6_sort_173 rfl ?_
      refine lv_goto (tgt := 184) hx hb dX6_sort_174 (by decide) ?_
      exact B184 L_0u14 v2 (x23.toInt64) _ _ _ hS (lv_sub hl [0, 1, 2] rfl) hF
  have S116 : ∀ (K116 : (Nat → Nat → Int64) → Int32 → Int64 → Int32 → Option ((Nat → Nat → Int64))) (_ : ∀ (L_0 : Nat → Nat → Int64) (v2 : Int32) (v3 : Int64) (v5 : Int32) (H : Heap) (locs : List Loc) (ls : Array Slot), HS D A H0 [(h_0, oX6 h_0_of h_0_kept h_0_column h_0_size h_0_hidden h_0_cell h_0_home h_0_waste h_0_stock h_0_past h_0_start h_0_known h_0_sorted h_0_row h_0_best I_0), (h_0_of, eI cI 9 (I_0 1)), (h_0_kept, eI cI 9 (I_0 2)), (h_0_column, eJ cJ 5 (L_0 0)), (h_0_size, eI cI 5 (I_0 3)), (h_0_hidden, eI cI 5 (I_0 4)), (h_0_cell, eI cI 2 (I_0 5)), (h_0_home, eI cI 4 (I_0 6)), (h_0_waste, eI cI 8 (I_0 7)), (h_0_stock, eI cI 8 (I_0 8)), (h_0_past, eJ cJ 1616 (L_0 1)), (h_0_start, eJ cJ 8 (L_0 2)), (h_0_known, eJ cJ 3216 (L_0 3)), (h_0_sorted, eJ cJ 3216 (L_0 4)), (h_0_row, eI cI 16 (I_0 9)), (h_0_best, eJ cJ 8 (L_0 5))] H locs → lv_has ls 9 [(0, .ref h_0), (1, .ref h_0_sorted), (2, .int v2), (3, .long v3), (5, .int v5)] → K116 L_0 v2 v3 v5 = some r_L_0 → W p l e ({ frames := 1, cells := 0, slots := 0, locals := 29 } : Room) s m args below meth c H locs 0 0 Q (F0 m 116 ls [])) (L_0 : Nat → Nat → Int64) (v2 : Int32) (v3 : Int64) (v5 : Int32) (H : Heap) (locs : List Loc) (ls : Array Slot), HS D A H0 [(h_0, oX6 h_0_of h_0_kept h_0_column h_0_size h_0_hidden h_0_cell h_0_home h_0_waste h_0_stock h_0_past h_0_start h_0_known h_0_sorted h_0_row h_0_best I_0), (h_0_of, eI cI 9 (I_0 1)), (h_0_kept, eI cI 9 (I_0 2)), (h_0_column, eJ cJ 5 (L_0 0)), (h_0_size, eI cI 5 (I_0 3)), (h_0_hidden, eI cI 5 (I_0 4)), (h_0_cell, eI cI 2 (I_0 5)), (h_0_home, eI cI 4 (I_0 6)), (h_0_waste, eI cI 8 (I_0 7)), (h_0_stock, eI cI 8 (I_0 8)), (h_0_past, eJ cJ 1616 (L_0 1)), (h_0_start, eJ cJ 8 (L_0 2)), (h_0_known, eJ cJ 3216 (L_0 3)), (h_0_sorted, eJ cJ 3216 (L_0 4)), (h_0_row, eI cI 16 (I_0 9)), (h_0_best, eJ cJ 8 (L_0 5))] H locs → lv_has ls 9 [(0, .ref h_0), (1, .ref h_0_sorted), (2, .int v2), (3, .long v3), (5, .int v5)] → F_X6_sort_s116 I_0 4 3216 K116 L_0 v2 v3 v5 = some r_L_0 → W p l e ({ frames := 1, cells := 0, slots := 0, locals := 29 } : Room) s m args below meth c H locs 0 0 Q (F0 m 116 ls []) := by
    intro K116 hK116 L_0 v2 v3 v5 H locs ls hS hl hF
    unfold F_X6_sort_s116 at hF
    refine lv_iload hx hb dX6_sort_116 (lv_at hl 4 rfl) ?_
    refine lv_aload_n hx hb dX6_sort_118 rfl (lv_at hl 0 rfl) ?_
    refine r_get hx hb hts inX6 hown hK hS 0 10 rfl rfl (by decide) q2 rfl dX6_sort_119 ?_
    refine lv_iconst (v := (nI 2)) hx hb dX6_sort_122 (by decide) ?_
    replace hF := rdA_e hF
    obtain ⟨hi26, x25, ex25, hF⟩ := hF
    refine r_iald hx hb hK hS 1 rfl rfl hi26 dX6_sort_123 ex25 ?_
    refine lv_icmp_ge (tgt := 146) hx hb dX6_sort_124 (by decide) (fun c_27 => ?_) (fun c_27 => ?_)
    · replace hF := ifp hF c_27
      exact B146 L_0 v2 v3 _ _ _ hS (lv_sub hl [0, 1, 2, 3] rfl) hF
    · replace hF := ifn hF c_27
      refine lv_aload_n hx hb dX6_sort_127 rfl (lv_at hl 1 rfl) ?_
      refine lv_iload_n hx hb dX6_sort_128 rfl (lv_at hl 2 rfl) ?_
      refine lv_iload hx hb dX6_sort_129 (lv_at hl 4 rfl) ?_
      refine lv_iadd hx hb dX6_sort_131 ?_
      refine lv_aload_n hx hb dX6_sort_132 rfl (lv_at hl 0 rfl) ?_
      refine r_get hx hb hts inX6 hown hK hS 0 31 rfl rfl (by decide) q3 rfl dX6_sort_133 ?_
      refine lv_iload hx hb dX6_sort_136 (lv_at hl 4 rfl) ?_
      replace hF := rdA_e hF
      obtain ⟨hi29, x28, ex28, hF⟩ := hF
      refine r_lald hx hb hK hS 15 rfl rfl hi29 dX6_sort_138 ex28 ?_
      replace hF := wrJ_e hF
      obtain ⟨hi31, L_0u30, eL_0u30, hF⟩ := hF
      refine r_last (w2 := [(h_0, oX6 h_0_of h_0_kept h_0_column h_0_size h_0_hidden h_0_cell h_0_home h_0_waste h_0_stock h_0_past h_0_start h_0_known h_0_sorted h_0_row h_0_best I_0), (h_0_of, eI cI 9 (I_0 1)), (h_0_kept, eI cI 9 (I_0 2)), (h_0_column, eJ cJ 5 (L_0u30 0)), (h_0_size, eI cI 5 (I_0 3)), (h_0_hidden, eI cI 5 (I_0 4)), (h_0_cell, eI cI 2 (I_0 5)), (h_0_home, eI cI 4 (I_0 6)), (h_0_waste, eI cI 8 (I_0 7)), (h_0_stock, eI cI 8 (I_0 8)), (h_0_past, eJ cJ 1616 (L_0u30 1)), (h_0_start, eJ cJ 8 (L_0u30 2)), (h_0_known, eJ cJ 3216 (L_0u30 3)), (h_0_sorted, eJ cJ 3216 (L_0u30 4)), (h_0_row, eI cI 16 (I_0 9)), (h_0_best, eJ cJ 8 (L_0u30 5))]) hx hb hK hS 13 rfl rfl hi31 dX6_sort_139 (by rw [eL_0u30]; rfl) (fun H locs hS => ?_)
      refine lv_iinc (v := v5 + (nI 1)) (lv' := [(5, .int (v5 + (nI 1))), (0, .ref h_0), (1, .ref h_0_sorted), (2, .int v2), (3, .long v3)]) hx hb dX6_sort_140 hl (k := 4) rfl rfl (by decide) rfl (fun ls hl => ?_)
      refine lv_goto (tgt := 116) hx hb dX6_sort_143 (by decide) ?_
      exact hK116 L_0u30 v2 v3 (v5 + (nI 1)) _ _ _ hS (lv_sub hl [1, 2, 3, 4, 0] rfl) hF
  have L116 : ∀  (n : Nat) (L_0 : Nat → Nat → Int64) (v2 : Int32) (v3 : Int64) (v5 : Int32) (H : Heap) (locs : List Loc) (ls : Array Slot), HS D A H0 [(h_0, oX6 h_0_of h_0_kept h_0_column h_0_size h_0_hidden h_0_cell h_0_home h_0_waste h_0_stock h_0_past h_0_start h_0_known h_0_sorted h_0_row h_0_best I_0), (h_0_of, eI cI 9 (I_0 1)), (h_0_kept, eI cI 9 (I_0 2)), (h_0_column, eJ cJ 5 (L_0 0)), (h_0_size, eI cI 5 (I_0 3)), (h_0_hidden, eI cI 5 (I_0 4)), (h_0_cell, eI cI 2 (I_0 5)), (h_0_home, eI cI 4 (I_0 6)), (h_0_waste, eI cI 8 (I_0 7)), (h_0_stock, eI cI 8 (I_0 8)), (h_0_past, eJ cJ 1616 (L_0 1)), (h_0_start, eJ cJ 8 (L_0 2)), (h_0_known, eJ cJ 3216 (L_0 3)), (h_0_sorted, eJ cJ 3216 (L_0 4)), (h_0_row, eI cI 16 (I_0 9)), (h_0_best, eJ cJ 8 (L_0 5))] H locs → lv_has ls 9 [(0, .ref h_0), (1, .ref h_0_sorted), (2, .int v2), (3, .long v3), (5, .int v5)] → F_X6_sort_L116 I_0 4 3216  n L_0 v2 v3 v5 = some r_L_0 → W p l e ({ frames := 1, cells := 0, slots := 0, locals := 29 } : Room) s m args below meth c H locs 0 0 Q (F0 m 116 ls []) := by
    intro  n
    induction n with
    | zero => intro L_0 v2 v3 v5 H locs ls hS hl hF; exact nomatch (show (none : Option ((Nat → Nat → Int64))) = some _ from hF)
    | succ n ih => intro L_0 v2 v3 v5 H locs ls hS hl hF; exact S116  _ ih L_0 v2 v3 v5 H locs ls hS hl hF
  have B66 : ∀ (K11 : (Nat → Nat → Int64) → Int32 → Int64 → Int32 → Option ((Nat → Nat → Int64))) (_ : ∀ (L_0 : Nat → Nat → Int64) (v2 : Int32) (v3 : Int64) (v5 : Int32) (H : Heap) (locs : List Loc) (ls : Array Slot), HS D A H0 [(h_0, oX6 h_0_of h_0_kept h_0_column h_0_size h_0_hidden h_0_cell h_0_home h_0_waste h_0_stock h_0_past h_0_start h_0_known h_0_sorted h_0_row h_0_best I_0), (h_0_of, eI cI 9 (I_0 1)), (h_0_kept, eI cI 9 (I_0 2)), (h_0_column, eJ cJ 5 (L_0 0)), (h_0_size, eI cI 5 (I_0 3)), (h_0_hidden, eI cI 5 (I_0 4)), (h_0_cell, eI cI 2 (I_0 5)), (h_0_home, eI cI 4 (I_0 6)), (h_0_waste, eI cI 8 (I_0 7)), (h_0_stock, eI cI 8 (I_0 8)), (h_0_past, eJ cJ 1616 (L_0 1)), (h_0_start, eJ cJ 8 (L_0 2)), (h_0_known, eJ cJ 3216 (L_0 3)), (h_0_sorted, eJ cJ 3216 (L_0 4)), (h_0_row, eI cI 16 (I_0 9)), (h_0_best, eJ cJ 8 (L_0 5))] H locs → lv_has ls 9 [(0, .ref h_0), (1, .ref h_0_sorted), (2, .int v2), (3, .long v3), (5, .int v5)] → K11 L_0 v2 v3 v5 = some r_L_0 → W p l e ({ frames := 1, cells := 0, slots := 0, locals := 29 } : Room) s m args below meth c H locs 0 0 Q (F0 m 11 ls [])) (L_0 : Nat → Nat → Int64) (v2 : Int32) (v3 : Int64) (v5 : Int32) (v6 : Int32) (H : Heap) (locs : List Loc) (ls : Array Slot), HS D A H0 [(h_0, oX6 h_0_of h_0_kept h_0_column h_0_size h_0_hidden h_0_cell h_0_home h_0_waste h_0_stock h_0_past h_0_start h_0_known h_0_sorted h_0_row h_0_best I_0), (h_0_of, eI cI 9 (I_0 1)), (h_0_kept, eI cI 9 (I_0 2)), (h_0_column, eJ cJ 5 (L_0 0)), (h_0_size, eI cI 5 (I_0 3)), (h_0_hidden, eI cI 5 (I_0 4)), (h_0_cell, eI cI 2 (I_0 5)), (h_0_home, eI cI 4 (I_0 6)), (h_0_waste, eI cI 8 (I_0 7)), (h_0_stock, eI cI 8 (I_0 8)), (h_0_past, eJ cJ 1616 (L_0 1)), (h_0_start, eJ cJ 8 (L_0 2)), (h_0_known, eJ cJ 3216 (L_0 3)), (h_0_sorted, eJ cJ 3216 (L_0 4)), (h_0_row, eI cI 16 (I_0 9)), (h_0_best, eJ cJ 8 (L_0 5))] H locs → lv_has ls 9 [(0, .ref h_0), (1, .ref h_0_sorted), (2, .int v2), (3, .long v3), (5, .int v5), (6, .int v6)] → F_X6_sort_b66 I_0 4 3216 K11 L_0 v2 v3 v5 v6 = some r_L_0 → W p l e ({ frames := 1, cells := 0, slots := 0, locals := 29 } : Room) s m args below meth c H locs 0 0 Q (F0 m 66 ls []) := by
    intro K11 hK11 L_0 v2 v3 v5 v6 H locs ls hS hl hF
    unfold F_X6_sort_b66 at hF
    refine lv_aload_n hx hb dX6_sort_66 rfl (lv_at hl 0 rfl) ?_
    refine r_get hx hb hts inX6 hown hK hS 0 31 rfl rfl (by decide) q3 rfl dX6_sort_67 ?_
    refine lv_iload hx hb dX6_sort_70 (lv_at hl 5 rfl) ?_
    refine lv_aload_n hx hb dX6_sort_72 rfl (lv_at hl 0 rfl) ?_
    refine r_get hx hb hts inX6 hown hK hS 0 15 rfl rfl (by decide) q4 rfl dX6_sort_73 ?_
    refine lv_iload hx hb dX6_sort_76 (lv_at hl 4 rfl) ?_
    replace hF := rdA_e hF
    obtain ⟨hi33, x32, ex32, hF⟩ := hF
    refine r_lald hx hb hK hS 3 rfl rfl hi33 dX6_sort_78 ex32 ?_
    replace hF := wrJ_e hF
    obtain ⟨hi35, L_0u34, eL_0u34, hF⟩ := hF
    refine r_last (w2 := [(h_0, oX6 h_0_of h_0_kept h_0_column h_0_size h_0_hidden h_0_cell h_0_home h_0_waste h_0_stock h_0_past h_0_start h_0_known h_0_sorted h_0_row h_0_best I_0), (h_0_of, eI cI 9 (I_0 1)), (h_0_kept, eI cI 9 (I_0 2)), (h_0_column, eJ cJ 5 (L_0u34 0)), (h_0_size, eI cI 5 (I_0 3)), (h_0_hidden, eI cI 5 (I_0 4)), (h_0_cell, eI cI 2 (I_0 5)), (h_0_home, eI cI 4 (I_0 6)), (h_0_waste, eI cI 8 (I_0 7)), (h_0_stock, eI cI 8 (I_0 8)), (h_0_past, eJ cJ 1616 (L_0u34 1)), (h_0_start, eJ cJ 8 (L_0u34 2)), (h_0_known, eJ cJ 3216 (L_0u34 3)), (h_0_sorted, eJ cJ 3216 (L_0u34 4)), (h_0_row, eI cI 16 (I_0 9)), (h_0_best, eJ cJ 8 (L_0u34 5))]) hx hb hK hS 15 rfl rfl hi35 dX6_sort_79 (by rw [eL_0u34]; rfl) (fun H locs hS => ?_)
    refine lv_lload_n hx hb dX6_sort_80 rfl (lv_at hl 3 rfl) ?_
    refine lv_aload_n hx hb dX6_sort_81 rfl (lv_at hl 0 rfl) ?_
    refine r_get hx hb hts inX6 hown hK hS 0 16 rfl rfl (by decide) q5 rfl dX6_sort_82 ?_
    refine lv_iload hx hb dX6_sort_85 (lv_at hl 4 rfl) ?_
    replace hF := rdA_e hF
    obtain ⟨hi37, x36, ex36, hF⟩ := hF
    refine r_iald hx hb hK hS 4 rfl rfl hi37 dX6_sort_87 ex36 ?_
    refine lv_aload_n hx hb dX6_sort_88 rfl (lv_at hl 0 rfl) ?_
    refine r_get hx hb hts inX6 hown hK hS 0 17 rfl rfl (by decide) q6 rfl dX6_sort_89 ?_
    refine lv_iload hx hb dX6_sort_92 (lv_at hl 4 rfl) ?_
    replace hF := rdA_e hF
    obtain ⟨hi39, x38, ex38, hF⟩ := hF
    refine r_iald hx hb hK hS 5 rfl rfl hi39 dX6_sort_94 ex38 ?_
    refine lv_iconst (v := (nI 5)) hx hb dX6_sort_95 (by decide) ?_
    refine lv_ishl hx hb dX6_sort_96 ?_
    refine lv_ior hx hb dX6_sort_97 ?_
    refine lv_i2l hx hb dX6_sort_98 rfl ?_
    refine lv_bipush (v := (nI 10)) hx hb dX6_sort_99 (by decide) ?_
    refine lv_iload hx hb dX6_sort_101 (lv_at hl 5 rfl) ?_
    refine lv_imul hx hb dX6_sort_103 ?_
    refine lv_lshl hx hb dX6_sort_104 rfl ?_
    refine lv_lor hx hb dX6_sort_105 ?_
    refine lv_lstore_n (lv' := [(3, .long (v3 ||| ((((x36 ||| (x38 <<< ((nI 5) &&& 31))) : Int32).toInt64) <<< ((((nI 10) * v6) : Int32).toInt64 &&& 63)))), (0, .ref h_0), (1, .ref h_0_sorted), (2, .int v2), (5, .int v5), (6, .int v6)]) hx hb dX6_sort_106 rfl hl (by decide) rfl (fun ls hl => ?_)
    refine lv_iinc (v := v5 + (nI 1)) (lv' := [(5, .int (v5 + (nI 1))), (3, .long (v3 ||| ((((x36 ||| (x38 <<< ((nI 5) &&& 31))) : Int32).toInt64) <<< ((((nI 10) * v6) : Int32).toInt64 &&& 63)))), (0, .ref h_0), (1, .ref h_0_sorted), (2, .int v2), (6, .int v6)]) hx hb dX6_sort_107 hl (k := 4) rfl rfl (by decide) rfl (fun ls hl => ?_)
    refine lv_goto (tgt := 11) hx hb dX6_sort_110 (by decide) ?_
    exact hK11 L_0u34 v2 (v3 ||| ((((x36 ||| (x38 <<< ((nI 5) &&& 31))) : Int32).toInt64) <<< ((((nI 10) * v6) : Int32).toInt64 &&& 63))) (v5 + (nI 1)) _ _ _ hS (lv_sub hl [2, 3, 4, 1, 0] rfl) hF
  have B57 : ∀ (K11 : (Nat → Nat → Int64) → Int32 → Int64 → Int32 → Option ((Nat → Nat → Int64))) (_ : ∀ (L_0 : Nat → Nat → Int64) (v2 : Int32) (v3 : Int64) (v5 : Int32) (H : Heap) (locs : List Loc) (ls : Array Slot), HS D A H0 [(h_0, oX6 h_0_of h_0_kept h_0_column h_0_size h_0_hidden h_0_cell h_0_home h_0_waste h_0_stock h_0_past h_0_start h_0_known h_0_sorted h_0_row h_0_best I_0), (h_0_of, eI cI 9 (I_0 1)), (h_0_kept, eI cI 9 (I_0 2)), (h_0_column, eJ cJ 5 (L_0 0)), (h_0_size, eI cI 5 (I_0 3)), (h_0_hidden, eI cI 5 (I_0 4)), (h_0_cell, eI cI 2 (I_0 5)), (h_0_home, eI cI 4 (I_0 6)), (h_0_waste, eI cI 8 (I_0 7)), (h_0_stock, eI cI 8 (I_0 8)), (h_0_past, eJ cJ 1616 (L_0 1)), (h_0_start, eJ cJ 8 (L_0 2)), (h_0_known, eJ cJ 3216 (L_0 3)), (h_0_sorted, eJ cJ 3216 (L_0 4)), (h_0_row, eI cI 16 (I_0 9)), (h_0_best, eJ cJ 8 (L_0 5))] H locs → lv_has ls 9 [(0, .ref h_0), (1, .ref h_0_sorted), (2, .int v2), (3, .long v3), (5, .int v5)] → K11 L_0 v2 v3 v5 = some r_L_0 → W p l e ({ frames := 1, cells := 0, slots := 0, locals := 29 } : Room) s m args below meth c H locs 0 0 Q (F0 m 11 ls [])) (K28 : (Nat → Nat → Int64) → Int32 → Int64 → Int32 → Int32 → Int32 → Option ((Nat → Nat → Int64))) (_ : ∀ (L_0 : Nat → Nat → Int64) (v2 : Int32) (v3 : Int64) (v5 : Int32) (v6 : Int32) (v7 : Int32) (H : Heap) (locs : List Loc) (ls : Array Slot), HS D A H0 [(h_0, oX6 h_0_of h_0_kept h_0_column h_0_size h_0_hidden h_0_cell h_0_home h_0_waste h_0_stock h_0_past h_0_start h_0_known h_0_sorted h_0_row h_0_best I_0), (h_0_of, eI cI 9 (I_0 1)), (h_0_kept, eI cI 9 (I_0 2)), (h_0_column, eJ cJ 5 (L_0 0)), (h_0_size, eI cI 5 (I_0 3)), (h_0_hidden, eI cI 5 (I_0 4)), (h_0_cell, eI cI 2 (I_0 5)), (h_0_home, eI cI 4 (I_0 6)), (h_0_waste, eI cI 8 (I_0 7)), (h_0_stock, eI cI 8 (I_0 8)), (h_0_past, eJ cJ 1616 (L_0 1)), (h_0_start, eJ cJ 8 (L_0 2)), (h_0_known, eJ cJ 3216 (L_0 3)), (h_0_sorted, eJ cJ 3216 (L_0 4)), (h_0_row, eI cI 16 (I_0 9)), (h_0_best, eJ cJ 8 (L_0 5))] H locs → lv_has ls 9 [(0, .ref h_0), (1, .ref h_0_sorted), (2, .int v2), (3, .long v3), (5, .int v5), (6, .int v6), (7, .int v7)] → K28 L_0 v2 v3 v5 v6 v7 = some r_L_0 → W p l e ({ frames := 1, cells := 0, slots := 0, locals := 29 } : Room) s m args below meth c H locs 0 0 Q (F0 m 28 ls [])) (L_0 : Nat → Nat → Int64) (v2 : Int32) (v3 : Int64) (v5 : Int32) (v7 : Int32) (s0 : Int32) (s1 : Int32) (H : Heap) (locs : List Loc) (ls : Array Slot), HS D A H0 [(h_0, oX6 h_0_of h_0_kept h_0_column h_0_size h_0_hidden h_0_cell h_0_home h_0_waste h_0_stock h_0_past h_0_start h_0_known h_0_sorted h_0_row h_0_best I_0), (h_0_of, eI cI 9 (I_0 1)), (h_0_kept, eI cI 9 (I_0 2)), (h_0_column, eJ cJ 5 (L_0 0)), (h_0_size, eI cI 5 (I_0 3)), (h_0_hidden, eI cI 5 (I_0 4)), (h_0_cell, eI cI 2 (I_0 5)), (h_0_home, eI cI 4 (I_0 6)), (h_0_waste, eI cI 8 (I_0 7)), (h_0_stock, eI cI 8 (I_0 8)), (h_0_past, eJ cJ 1616 (L_0 1)), (h_0_start, eJ cJ 8 (L_0 2)), (h_0_known, eJ cJ 3216 (L_0 3)), (h_0_sorted, eJ cJ 3216 (L_0 4)), (h_0_row, eI cI 16 (I_0 9)), (h_0_best, eJ cJ 8 (L_0 5))] H locs → lv_has ls 9 [(0, .ref h_0), (1, .ref h_0_sorted), (2, .int v2), (3, .long v3), (5, .int v5), (7, .int v7)] → F_X6_sort_b57 I_0 4 3216 K11 K28 L_0 v2 v3 v5 v7 s0 s1 = some r_L_0 → W p l e ({ frames := 1, cells := 0, slots := 0, locals := 29 } : Room) s m args below meth c H locs 0 0 Q (F0 m 57 ls [.int s1, .int s0]) := by
    intro K11 hK11 K28 hK28 L_0 v2 v3 v5 v7 s0 s1 H locs ls hS hl hF
    unfold F_X6_sort_b57 at hF
    refine lv_iadd hx hb dX6_sort_57 ?_
    refine lv_istore (lv' := [(6, .int (s0 + s1)), (0, .ref h_0), (1, .ref h_0_sorted), (2, .int v2), (3, .long v3), (5, .int v5), (7, .int v7)]) hx hb dX6_sort_58 hl (by decide) rfl (fun ls hl => ?_)
    refine lv_iinc (v := v7 + (nI 1)) (lv' := [(7, .int (v7 + (nI 1))), (6, .int (s0 + s1)), (0, .ref h_0), (1, .ref h_0_sorted), (2, .int v2), (3, .long v3), (5, .int v5)]) hx hb dX6_sort_60 hl (k := 6) rfl rfl (by decide) rfl (fun ls hl => ?_)
    refine lv_goto (tgt := 28) hx hb dX6_sort_63 (by decide) ?_
    exact hK28 L_0 v2 v3 v5 (s0 + s1) (v7 + (nI 1)) _ _ _ hS (lv_sub hl [2, 3, 4, 5, 6, 1, 0] rfl) hF
  have S28 : ∀ (K11 : (Nat → Nat → Int64) → Int32 → Int64 → Int32 → Option ((Nat → Nat → Int64))) (_ : ∀ (L_0 : Nat → Nat → Int64) (v2 : Int32) (v3 : Int64) (v5 : Int32) (H : Heap) (locs : List Loc) (ls : Array Slot), HS D A H0 [(h_0, oX6 h_0_of h_0_kept h_0_column h_0_size h_0_hidden h_0_cell h_0_home h_0_waste h_0_stock h_0_past h_0_start h_0_known h_0_sorted h_0_row h_0_best I_0), (h_0_of, eI cI 9 (I_0 1)), (h_0_kept, eI cI 9 (I_0 2)), (h_0_column, eJ cJ 5 (L_0 0)), (h_0_size, eI cI 5 (I_0 3)), (h_0_hidden, eI cI 5 (I_0 4)), (h_0_cell, eI cI 2 (I_0 5)), (h_0_home, eI cI 4 (I_0 6)), (h_0_waste, eI cI 8 (I_0 7)), (h_0_stock, eI cI 8 (I_0 8)), (h_0_past, eJ cJ 1616 (L_0 1)), (h_0_start, eJ cJ 8 (L_0 2)), (h_0_known, eJ cJ 3216 (L_0 3)), (h_0_sorted, eJ cJ 3216 (L_0 4)), (h_0_row, eI cI 16 (I_0 9)), (h_0_best, eJ cJ 8 (L_0 5))] H locs → lv_has ls 9 [(0, .ref h_0), (1, .ref h_0_sorted), (2, .int v2), (3, .long v3), (5, .int v5)] → K11 L_0 v2 v3 v5 = some r_L_0 → W p l e ({ frames := 1, cells := 0, slots := 0, locals := 29 } : Room) s m args below meth c H locs 0 0 Q (F0 m 11 ls [])) (K28 : (Nat → Nat → Int64) → Int32 → Int64 → Int32 → Int32 → Int32 → Option ((Nat → Nat → Int64))) (_ : ∀ (L_0 : Nat → Nat → Int64) (v2 : Int32) (v3 : Int64) (v5 : Int32) (v6 : Int32) (v7 : Int32) (H : Heap) (locs : List Loc) (ls : Array Slot), HS D A H0 [(h_0, oX6 h_0_of h_0_kept h_0_column h_0_size h_0_hidden h_0_cell h_0_home h_0_waste h_0_stock h_0_past h_0_start h_0_known h_0_sorted h_0_row h_0_best I_0), (h_0_of, eI cI 9 (I_0 1)), (h_0_kept, eI cI 9 (I_0 2)), (h_0_column, eJ cJ 5 (L_0 0)), (h_0_size, eI cI 5 (I_0 3)), (h_0_hidden, eI cI 5 (I_0 4)), (h_0_cell, eI cI 2 (I_0 5)), (h_0_home, eI cI 4 (I_0 6)), (h_0_waste, eI cI 8 (I_0 7)), (h_0_stock, eI cI 8 (I_0 8)), (h_0_past, eJ cJ 1616 (L_0 1)), (h_0_start, eJ cJ 8 (L_0 2)), (h_0_known, eJ cJ 3216 (L_0 3)), (h_0_sorted, eJ cJ 3216 (L_0 4)), (h_0_row, eI cI 16 (I_0 9)), (h_0_best, eJ cJ 8 (L_0 5))] H locs → lv_has ls 9 [(0, .ref h_0), (1, .ref h_0_sorted), (2, .int v2), (3, .long v3), (5, .int v5), (6, .int v6), (7, .int v7)] → K28 L_0 v2 v3 v5 v6 v7 = some r_L_0 → W p l e ({ frames := 1, cells := 0, slots := 0, locals := 29 } : Room) s m args below meth c H locs 0 0 Q (F0 m 28 ls [])) (L_0 : Nat → Nat → Int64) (v2 : Int32) (v3 : Int64) (v5 : Int32) (v6 : Int32) (v7 : Int32) (H : Heap) (locs : List Loc) (ls : Array Slot), HS D A H0 [(h_0, oX6 h_0_of h_0_kept h_0_column h_0_size h_0_hidden h_0_cell h_0_home h_0_waste h_0_stock h_0_past h_0_start h_0_known h_0_sorted h_0_row h_0_best I_0), (h_0_of, eI cI 9 (I_0 1)), (h_0_kept, eI cI 9 (I_0 2)), (h_0_column, eJ cJ 5 (L_0 0)), (h_0_size, eI cI 5 (I_0 3)), (h_0_hidden, eI cI 5 (I_0 4)), (h_0_cell, eI cI 2 (I_0 5)), (h_0_home, eI cI 4 (I_0 6)), (h_0_waste, eI cI 8 (I_0 7)), (h_0_stock, eI cI 8 (I_0 8)), (h_0_past, eJ cJ 1616 (L_0 1)), (h_0_start, eJ cJ 8 (L_0 2)), (h_0_known, eJ cJ 3216 (L_0 3)), (h_0_sorted, eJ cJ 3216 (L_0 4)), (h_0_row, eI cI 16 (I_0 9)), (h_0_best, eJ cJ 8 (L_0 5))] H locs → lv_has ls 9 [(0, .ref h_0), (1, .ref h_0_sorted), (2, .int v2), (3, .long v3), (5, .int v5), (6, .int v6), (7, .int v7)] → F_X6_sort_s28 I_0 4 3216 K11 K28 L_0 v2 v3 v5 v6 v7 = some r_L_0 → W p l e ({ frames := 1, cells := 0, slots := 0, locals := 29 } : Room) s m args below meth c H locs 0 0 Q (F0 m 28 ls []) := by
    intro K11 hK11 K28 hK28 L_0 v2 v3 v5 v6 v7 H locs ls hS hl hF
    unfold F_X6_sort_s28 at hF
    refine lv_iload hx hb dX6_sort_28 (lv_at hl 6 rfl) ?_
    refine lv_aload_n hx hb dX6_sort_30 rfl (lv_at hl 0 rfl) ?_
    refine r_get hx hb hts inX6 hown hK hS 0 10 rfl rfl (by decide) q2 rfl dX6_sort_31 ?_
    refine lv_iconst (v := (nI 2)) hx hb dX6_sort_34 (by decide) ?_
    replace hF := rdA_e hF
    obtain ⟨hi41, x40, ex40, hF⟩ := hF
    refine r_iald hx hb hK hS 1 rfl rfl hi41 dX6_sort_35 ex40 ?_
    refine lv_icmp_ge (tgt := 66) hx hb dX6_sort_36 (by decide) (fun c_42 => ?_) (fun c_42 => ?_)
    · replace hF := ifp hF c_42
      exact B66 K11 hK11 L_0 v2 v3 v5 v6 _ _ _ hS (lv_sub hl [0, 1, 2, 3, 4, 5] rfl) hF
    · replace hF := ifn hF c_42
      refine lv_iload hx hb dX6_sort_39 (lv_at hl 5 rfl) ?_
      refine lv_aload_n hx hb dX6_sort_41 rfl (lv_at hl 0 rfl) ?_
      refine lv_iload hx hb dX6_sort_42 (lv_at hl 6 rfl) ?_
      refine lv_iload hx hb dX6_sort_44 (lv_at hl 4 rfl) ?_
      replace hF := cal1_e hF
      obtain ⟨x43, hc44, hF⟩ := hF
      refine kV_i (As := [.int v7, .int v5]) (rest := [.int v6]) (wr := []) (w2 := [(h_0, oX6 h_0_of h_0_kept h_0_column h_0_size h_0_hidden h_0_cell h_0_home h_0_waste h_0_stock h_0_past h_0_start h_0_known h_0_sorted h_0_row h_0_best I_0), (h_0_of, eI cI 9 (I_0 1)), (h_0_kept, eI cI 9 (I_0 2)), (h_0_column, eJ cJ 5 (L_0 0)), (h_0_size, eI cI 5 (I_0 3)), (h_0_hidden, eI cI 5 (I_0 4)), (h_0_cell, eI cI 2 (I_0 5)), (h_0_home, eI cI 4 (I_0 6)), (h_0_waste, eI cI 8 (I_0 7)), (h_0_stock, eI cI 8 (I_0 8)), (h_0_past, eJ cJ 1616 (L_0 1)), (h_0_start, eJ cJ 8 (L_0 2)), (h_0_known, eJ cJ 3216 (L_0 3)), (h_0_sorted, eJ cJ 3216 (L_0 4)), (h_0_row, eI cI 16 (I_0 9)), (h_0_best, eJ cJ 8 (L_0 5))]) hCF hK (c_X6_isAhead l D cI cJ h_0 h_0_of h_0_kept h_0_column h_0_size h_0_hidden h_0_cell h_0_home h_0_waste h_0_stock h_0_past h_0_start h_0_known h_0_sorted h_0_row h_0_best I_0 L_0 v7 v5 x43 hc44) (cwV 2 hts (TBL_V mw_702 mw_703 mw_704 mw_5 mw_705) rfl rfl rfl pmX6_isAhead ⟨Nat.le_of_ble_eq_true rfl, Nat.le_of_ble_eq_true rfl⟩) hS hA [0, 1, 2, 3, 4, 5, 6, 7, 8, 9, 10, 11, 12, 13, 14, 15] [] rfl rfl rfl rfl (by decide) rfl rfl rfl hl.1 rfl (Nat.le_of_ble_eq_true rfl) ⟨Nat.zero_le _, Nat.zero_le _⟩ dX6_sort_46 rfl (fun H locs hS => ?_)
      refine lv_if_eq (tgt := 56) hx hb dX6_sort_49 (by decide) (fun c_45 => ?_) (fun c_45 => ?_)
      · replace hF := ifp hF c_45
        refine lv_iconst (v := (nI 0)) hx hb dX6_sort_56 (by decide) ?_
        exact B57 K11 hK11 K28 hK28 L_0 v2 v3 v5 v7 v6 (nI 0) _ _ _ hS (lv_sub hl [0, 1, 2, 3, 4, 6] rfl) hF
      · replace hF := ifn hF c_45
        refine lv_iconst (v := (nI 1)) hx hb dX6_sort_52 (by decide) ?_
        refine lv_goto (tgt := 57) hx hb dX6_sort_53 (by decide) ?_
        exact B57 K11 hK11 K28 hK28 L_0 v2 v3 v5 v7 v6 (nI 1) _ _ _ hS (lv_sub hl [0, 1, 2, 3, 4, 6] rfl) hF
  have L28 : ∀ (K11 : (Nat → Nat → Int64) → Int32 → Int64 → Int32 → Option ((Nat → Nat → Int64))) (_ : ∀ (L_0 : Nat → Nat → Int64) (v2 : Int32) (v3 : Int64) (v5 : Int32) (H : Heap) (locs : List Loc) (ls : Array Slot), HS D A H0 [(h_0, oX6 h_0_of h_0_kept h_0_column h_0_size h_0_hidden h_0_cell h_0_home h_0_waste h_0_stock h_0_past h_0_start h_0_known h_0_sorted h_0_row h_0_best I_0), (h_0_of, eI cI 9 (I_0 1)), (h_0_kept, eI cI 9 (I_0 2)), (h_0_column, eJ cJ 5 (L_0 0)), (h_0_size, eI cI 5 (I_0 3)), (h_0_hidden, eI cI 5 (I_0 4)), (h_0_cell, eI cI 2 (I_0 5)), (h_0_home, eI cI 4 (I_0 6)), (h_0_waste, eI cI 8 (I_0 7)), (h_0_stock, eI cI 8 (I_0 8)), (h_0_past, eJ cJ 1616 (L_0 1)), (h_0_start, eJ cJ 8 (L_0 2)), (h_0_known, eJ cJ 3216 (L_0 3)), (h_0_sorted, eJ cJ 3216 (L_0 4)), (h_0_row, eI cI 16 (I_0 9)), (h_0_best, eJ cJ 8 (L_0 5))] H locs → lv_has ls 9 [(0, .ref h_0), (1, .ref h_0_sorted), (2, .int v2), (3, .long v3), (5, .int v5)] → K11 L_0 v2 v3 v5 = some r_L_0 → W p l e ({ frames := 1, cells := 0, slots := 0, locals := 29 } : Room) s m args below meth c H locs 0 0 Q (F0 m 11 ls [])) (n : Nat) (L_0 : Nat → Nat → Int64) (v2 : Int32) (v3 : Int64) (v5 : Int32) (v6 : Int32) (v7 : Int32) (H : Heap) (locs : List Loc) (ls : Array Slot), HS D A H0 [(h_0, oX6 h_0_of h_0_kept h_0_column h_0_size h_0_hidden h_0_cell h_0_home h_0_waste h_0_stock h_0_past h_0_start h_0_known h_0_sorted h_0_row h_0_best I_0), (h_0_of, eI cI 9 (I_0 1)), (h_0_kept, eI cI 9 (I_0 2)), (h_0_column, eJ cJ 5 (L_0 0)), (h_0_size, eI cI 5 (I_0 3)), (h_0_hidden, eI cI 5 (I_0 4)), (h_0_cell, eI cI 2 (I_0 5)), (h_0_home, eI cI 4 (I_0 6)), (h_0_waste, eI cI 8 (I_0 7)), (h_0_stock, eI cI 8 (I_0 8)), (h_0_past, eJ cJ 1616 (L_0 1)), (h_0_start, eJ cJ 8 (L_0 2)), (h_0_known, eJ cJ 3216 (L_0 3)), (h_0_sorted, eJ cJ 3216 (L_0 4)), (h_0_row, eI cI 16 (I_0 9)), (h_0_best, eJ cJ 8 (L_0 5))] H locs → lv_has ls 9 [(0, .ref h_0), (1, .ref h_0_sorted), (2, .int v2), (3, .long v3), (5, .int v5), (6, .int v6), (7, .int v7)] → F_X6_sort_L28 I_0 4 3216 K11 n L_0 v2 v3 v5 v6 v7 = some r_L_0 → W p l e ({ frames := 1, cells := 0, slots := 0, locals := 29 } : Room) s m args below meth c H locs 0 0 Q (F0 m 28 ls []) := by
    intro K11 hK11 n
    induction n with
    | zero => intro L_0 v2 v3 v5 v6 v7 H locs ls hS hl hF; exact nomatch (show (none : Option ((Nat → Nat → Int64))) = some _ from hF)
    | succ n ih => intro L_0 v2 v3 v5 v6 v7 H locs ls hS hl hF; exact S28 K11 hK11 _ ih L_0 v2 v3 v5 v6 v7 H locs ls hS hl hF
  have S11 : ∀ (K11 : (Nat → Nat → Int64) → Int32 → Int64 → Int32 → Option ((Nat → Nat → Int64))) (_ : ∀ (L_0 : Nat → Nat → Int64) (v2 : Int32) (v3 : Int64) (v5 : Int32) (H : Heap) (locs : List Loc) (ls : Array Slot), HS D A H0 [(h_0, oX6 h_0_of h_0_kept h_0_column h_0_size h_0_hidden h_0_cell h_0_home h_0_waste h_0_stock h_0_past h_0_start h_0_known h_0_sorted h_0_row h_0_best I_0), (h_0_of, eI cI 9 (I_0 1)), (h_0_kept, eI cI 9 (I_0 2)), (h_0_column, eJ cJ 5 (L_0 0)), (h_0_size, eI cI 5 (I_0 3)), (h_0_hidden, eI cI 5 (I_0 4)), (h_0_cell, eI cI 2 (I_0 5)), (h_0_home, eI cI 4 (I_0 6)), (h_0_waste, eI cI 8 (I_0 7)), (h_0_stock, eI cI 8 (I_0 8)), (h_0_past, eJ cJ 1616 (L_0 1)), (h_0_start, eJ cJ 8 (L_0 2)), (h_0_known, eJ cJ 3216 (L_0 3)), (h_0_sorted, eJ cJ 3216 (L_0 4)), (h_0_row, eI cI 16 (I_0 9)), (h_0_best, eJ cJ 8 (L_0 5))] H locs → lv_has ls 9 [(0, .ref h_0), (1, .ref h_0_sorted), (2, .int v2), (3, .long v3), (5, .int v5)] → K11 L_0 v2 v3 v5 = some r_L_0 → W p l e ({ frames := 1, cells := 0, slots := 0, locals := 29 } : Room) s m args below meth c H locs 0 0 Q (F0 m 11 ls [])) (L_0 : Nat → Nat → Int64) (v2 : Int32) (v3 : Int64) (v5 : Int32) (H : Heap) (locs : List Loc) (ls : Array Slot), HS D A H0 [(h_0, oX6 h_0_of h_0_kept h_0_column h_0_size h_0_hidden h_0_cell h_0_home h_0_waste h_0_stock h_0_past h_0_start h_0_known h_0_sorted h_0_row h_0_best I_0), (h_0_of, eI cI 9 (I_0 1)), (h_0_kept, eI cI 9 (I_0 2)), (h_0_column, eJ cJ 5 (L_0 0)), (h_0_size, eI cI 5 (I_0 3)), (h_0_hidden, eI cI 5 (I_0 4)), (h_0_cell, eI cI 2 (I_0 5)), (h_0_home, eI cI 4 (I_0 6)), (h_0_waste, eI cI 8 (I_0 7)), (h_0_stock, eI cI 8 (I_0 8)), (h_0_past, eJ cJ 1616 (L_0 1)), (h_0_start, eJ cJ 8 (L_0 2)), (h_0_known, eJ cJ 3216 (L_0 3)), (h_0_sorted, eJ cJ 3216 (L_0 4)), (h_0_row, eI cI 16 (I_0 9)), (h_0_best, eJ cJ 8 (L_0 5))] H locs → lv_has ls 9 [(0, .ref h_0), (1, .ref h_0_sorted), (2, .int v2), (3, .long v3), (5, .int v5)] → F_X6_sort_s11 I_0 4 3216 K11 L_0 v2 v3 v5 = some r_L_0 → W p l e ({ frames := 1, cells := 0, slots := 0, locals := 29 } : Room) s m args below meth c H locs 0 0 Q (F0 m 11 ls []) := by
    intro K11 hK11 L_0 v2 v3 v5 H locs ls hS hl hF
    unfold F_X6_sort_s11 at hF
    refine lv_iload hx hb dX6_sort_11 (lv_at hl 4 rfl) ?_
    refine lv_aload_n hx hb dX6_sort_13 rfl (lv_at hl 0 rfl) ?_
    refine r_get hx hb hts inX6 hown hK hS 0 10 rfl rfl (by decide) q2 rfl dX6_sort_14 ?_
    refine lv_iconst (v := (nI 2)) hx hb dX6_sort_17 (by decide) ?_
    replace hF := rdA_e hF
    obtain ⟨hi47, x46, ex46, hF⟩ := hF
    refine r_iald hx hb hK hS 1 rfl rfl hi47 dX6_sort_18 ex46 ?_
    refine lv_icmp_ge (tgt := 113) hx hb dX6_sort_19 (by decide) (fun c_48 => ?_) (fun c_48 => ?_)
    · replace hF := ifp hF c_48
      refine lv_iconst (v := (nI 0)) hx hb dX6_sort_113 (by decide) ?_
      refine lv_istore (lv' := [(5, .int (nI 0)), (0, .ref h_0), (1, .ref h_0_sorted), (2, .int v2), (3, .long v3)]) hx hb dX6_sort_114 hl (by decide) rfl (fun ls hl => ?_)
      exact L116 FU L_0 v2 v3 (nI 0) _ _ _ hS (lv_sub hl [1, 2, 3, 4, 0] rfl) hF
    · replace hF := ifn hF c_48
      refine lv_iconst (v := (nI 0)) hx hb dX6_sort_22 (by decide) ?_
      refine lv_istore (lv' := [(6, .int (nI 0)), (0, .ref h_0), (1, .ref h_0_sorted), (2, .int v2), (3, .long v3), (5, .int v5)]) hx hb dX6_sort_23 hl (by decide) rfl (fun ls hl => ?_)
      refine lv_iconst (v := (nI 0)) hx hb dX6_sort_25 (by decide) ?_
      refine lv_istore (lv' := [(7, .int (nI 0)), (6, .int (nI 0)), (0, .ref h_0), (1, .ref h_0_sorted), (2, .int v2), (3, .long v3), (5, .int v5)]) hx hb dX6_sort_26 hl (by decide) rfl (fun ls hl => ?_)
      exact L28 K11 hK11 FU L_0 v2 v3 v5 (nI 0) (nI 0) _ _ _ hS (lv_sub hl [2, 3, 4, 5, 6, 1, 0] rfl) hF
  have L11 : ∀  (n : Nat) (L_0 : Nat → Nat → Int64) (v2 : Int32) (v3 : Int64) (v5 : Int32) (H : Heap) (locs : List Loc) (ls : Array Slot), HS D A H0 [(h_0, oX6 h_0_of h_0_kept h_0_column h_0_size h_0_hidden h_0_cell h_0_home h_0_waste h_0_stock h_0_past h_0_start h_0_known h_0_sorted h_0_row h_0_best I_0), (h_0_of, eI cI 9 (I_0 1)), (h_0_kept, eI cI 9 (I_0 2)), (h_0_column, eJ cJ 5 (L_0 0)), (h_0_size, eI cI 5 (I_0 3)), (h_0_hidden, eI cI 5 (I_0 4)), (h_0_cell, eI cI 2 (I_0 5)), (h_0_home, eI cI 4 (I_0 6)), (h_0_waste, eI cI 8 (I_0 7)), (h_0_stock, eI cI 8 (I_0 8)), (h_0_past, eJ cJ 1616 (L_0 1)), (h_0_start, eJ cJ 8 (L_0 2)), (h_0_known, eJ cJ 3216 (L_0 3)), (h_0_sorted, eJ cJ 3216 (L_0 4)), (h_0_row, eI cI 16 (I_0 9)), (h_0_best, eJ cJ 8 (L_0 5))] H locs → lv_has ls 9 [(0, .ref h_0), (1, .ref h_0_sorted), (2, .int v2), (3, .long v3), (5, .int v5)] → F_X6_sort_L11 I_0 4 3216  n L_0 v2 v3 v5 = some r_L_0 → W p l e ({ frames := 1, cells := 0, slots := 0, locals := 29 } : Room) s m args below meth c H locs 0 0 Q (F0 m 11 ls []) := by
    intro  n
    induction n with
    | zero => intro L_0 v2 v3 v5 H locs ls hS hl hF; exact nomatch (show (none : Option ((Nat → Nat → Int64))) = some _ from hF)
    | succ n ih => intro L_0 v2 v3 v5 H locs ls hS hl hF; exact S11  _ ih L_0 v2 v3 v5 H locs ls hS hl hF
  unfold F_X6_sort at hF
  refine lv_aload_n hx hb dX6_sort_0 rfl (lv_at hl 0 rfl) ?_
  refine lv_aload_n hx hb dX6_sort_1 rfl (lv_at hl 1 rfl) ?_
  refine lv_iload_n hx hb dX6_sort_2 rfl (lv_at hl 2 rfl) ?_
  replace hF := cal1_e hF
  obtain ⟨L_0u49, hc50, hF⟩ := hF
  refine kV_v (As := [.ref h_0_sorted, .int v2]) (rest := []) (wr := []) (w2 := [(h_0, oX6 h_0_of h_0_kept h_0_column h_0_size h_0_hidden h_0_cell h_0_home h_0_waste h_0_stock h_0_past h_0_start h_0_known h_0_sorted h_0_row h_0_best I_0), (h_0_of, eI cI 9 (I_0 1)), (h_0_kept, eI cI 9 (I_0 2)), (h_0_column, eJ cJ 5 (L_0u49 0)), (h_0_size, eI cI 5 (I_0 3)), (h_0_hidden, eI cI 5 (I_0 4)), (h_0_cell, eI cI 2 (I_0 5)), (h_0_home, eI cI 4 (I_0 6)), (h_0_waste, eI cI 8 (I_0 7)), (h_0_stock, eI cI 8 (I_0 8)), (h_0_past, eJ cJ 1616 (L_0u49 1)), (h_0_start, eJ cJ 8 (L_0u49 2)), (h_0_known, eJ cJ 3216 (L_0u49 3)), (h_0_sorted, eJ cJ 3216 (L_0u49 4)), (h_0_row, eI cI 16 (I_0 9)), (h_0_best, eJ cJ 8 (L_0u49 5))]) hCF hK (c_X6_store_sorted l D cI cJ h_0 h_0_of h_0_kept h_0_column h_0_size h_0_hidden h_0_cell h_0_home h_0_waste h_0_stock h_0_past h_0_start h_0_known h_0_sorted h_0_row h_0_best I_0 L_0 v2 L_0u49 hc50) (cwV 2 hts (TBL_V mw_209 mw_210 mw_211 mw_5 mw_212) rfl rfl rfl pmX6_store ⟨Nat.le_of_ble_eq_true rfl, Nat.le_of_ble_eq_true rfl⟩) hS hA [0, 1, 2, 3, 4, 5, 6, 7, 8, 9, 10, 11, 12, 13, 14, 15] [] rfl rfl rfl rfl (by decide) rfl rfl rfl hl.1 rfl (Nat.le_of_ble_eq_true rfl) ⟨Nat.zero_le _, Nat.zero_le _⟩ dX6_sort_3 rfl (fun H locs hS => ?_)
  refine lv_lconst (v := (lN 0)) hx hb dX6_sort_6 (by decide) ?_
  refine lv_lstore_n (lv' := [(3, .long (lN 0)), (0, .ref h_0), (1, .ref h_0_sorted), (2, .int v2)]) hx hb dX6_sort_7 rfl hl (by decide) rfl (fun ls hl => ?_)
  refine lv_iconst (v := (nI 0)) hx hb dX6_sort_8 (by decide) ?_
  refine lv_istore (lv' := [(5, .int (nI 0)), (3, .long (lN 0)), (0, .ref h_0), (1, .ref h_0_sorted), (2, .int v2)]) hx hb dX6_sort_9 hl (by decide) rfl (fun ls hl => ?_)
  exact L11 FU L_0u49 v2 (lN 0) (nI 0) _ _ _ hS (lv_sub hl [2, 3, 4, 1, 0] rfl) hF
set_option maxHeartbeats 4000000 in
set_option maxRecDepth 100000 in
theorem c_X6_isKnown (l : Launch) (D : va_G) (cI cJ : ClassId) (h_0 h_0_of h_0_kept h_0_column h_0_size h_0_hidden h_0_cell h_0_home h_0_waste h_0_stock h_0_past h_0_start h_0_known h_0_sorted h_0_row h_0_best : Nat) (I_0 : Nat → Nat → Int32) (L_0 : Nat → Nat → Int64) (rv : Int32) (r_L_0 : Nat → Nat → Int64) (hF : F_X6_isKnown I_0 L_0 = some (rv, r_L_0)) : CtI l D [(cI, .int), (cJ, .long)] yX6_isKnown wtX6_isKnown ({ frames := 2, cells := 0, slots := 0, locals := 57 } : Room) [.ref h_0] [(h_0, oX6 h_0_of h_0_kept h_0_column h_0_size h_0_hidden h_0_cell h_0_home h_0_waste h_0_stock h_0_past h_0_start h_0_known h_0_sorted h_0_row h_0_best I_0), (h_0_of, eI cI 9 (I_0 1)), (h_0_kept, eI cI 9 (I_0 2)), (h_0_column, eJ cJ 5 (L_0 0)), (h_0_size, eI cI 5 (I_0 3)), (h_0_hidden, eI cI 5 (I_0 4)), (h_0_cell, eI cI 2 (I_0 5)), (h_0_home, eI cI 4 (I_0 6)), (h_0_waste, eI cI 8 (I_0 7)), (h_0_stock, eI cI 8 (I_0 8)), (h_0_past, eJ cJ 1616 (L_0 1)), (h_0_start, eJ cJ 8 (L_0 2)), (h_0_known, eJ cJ 3216 (L_0 3)), (h_0_sorted, eJ cJ 3216 (L_0 4)), (h_0_row, eI cI 16 (I_0 9)), (h_0_best, eJ cJ 8 (L_0 5))] [(h_0, oX6 h_0_of h_0_kept h_0_column h_0_size h_0_hidden h_0_cell h_0_home h_0_waste h_0_stock h_0_past h_0_start h_0_known h_0_sorted h_0_row h_0_best I_0), (h_0_of, eI cI 9 (I_0 1)), (h_0_kept, eI cI 9 (I_0 2)), (h_0_column, eJ cJ 5 (r_L_0 0)), (h_0_size, eI cI 5 (I_0 3)), (h_0_hidden, eI cI 5 (I_0 4)), (h_0_cell, eI cI 2 (I_0 5)), (h_0_home, eI cI 4 (I_0 6)), (h_0_waste, eI cI 8 (I_0 7)), (h_0_stock, eI cI 8 (I_0 8)), (h_0_past, eJ cJ 1616 (r_L_0 1)), (h_0_start, eJ cJ 8 (r_L_0 2)), (h_0_known, eJ cJ 3216 (r_L_0 3)), (h_0_sorted, eJ cJ 3216 (r_L_0 4)), (h_0_row, eI cI 16 (I_0 9)), (h_0_best, eJ cJ 8 (r_L_0 5))] rv := by
  refine CtZ.of (cc := cX6_isKnown) (maxL := 4) (by decide) rfl (Nat.le_of_ble_eq_true rfl) ?_
  intro p e s m args below meth c A H0 Q ls X hS hl kret
  have hCF := X.1
  obtain ⟨⟨hx, hb, hml, hown, hts⟩, hK, hA⟩ := X
  have hl : lv_has ls 4 [(0, .ref h_0)] := hl
  have q0 := hts (.fieldLink RX6 63 "PatienceryModel" "sorted" "[J") (List.mem_cons_of_mem _ mw_173)
  have inX6 : ∀ w ∈ u_ws RX6 TX6 32, w ∈ wtX6_isKnown := fun w h => List.mem_cons_of_mem _ (inlX6 w h)
  have q2 := hts (.fieldLink RX6 228 "PatienceryModel" "many" "I") (List.mem_cons_of_mem _ mw_697)
  have B80 : ∀ (K17 : (Nat → Nat → Int64) → Int32 → Option (Int32 × (Nat → Nat → Int64))) (_ : ∀ (L_0 : Nat → Nat → Int64) (v1 : Int32) (H : Heap) (locs : List Loc) (ls : Array Slot), HS D A H0 [(h_0, oX6 h_0_of h_0_kept h_0_column h_0_size h_0_hidden h_0_cell h_0_home h_0_waste h_0_stock h_0_past h_0_start h_0_known h_0_sorted h_0_row h_0_best I_0), (h_0_of, eI cI 9 (I_0 1)), (h_0_kept, eI cI 9 (I_0 2)), (h_0_column, eJ cJ 5 (L_0 0)), (h_0_size, eI cI 5 (I_0 3)), (h_0_hidden, eI cI 5 (I_0 4)), (h_0_cell, eI cI 2 (I_0 5)), (h_0_home, eI cI 4 (I_0 6)), (h_0_waste, eI cI 8 (I_0 7)), (h_0_stock, eI cI 8 (I_0 8)), (h_0_past, eJ cJ 1616 (L_0 1)), (h_0_start, eJ cJ 8 (L_0 2)), (h_0_known, eJ cJ 3216 (L_0 3)), (h_0_sorted, eJ cJ 3216 (L_0 4)), (h_0_row, eI cI 16 (I_0 9)), (h_0_best, eJ cJ 8 (L_0 5))] H locs → lv_has ls 4 [(0, .ref h_0), (1, .int v1)] → K17 L_0 v1 = some (rv, r_L_0) → W p l e ({ frames := 2, cells := 0, slots := 0, locals := 57 } : Room) s m args below meth c H locs 0 0 Q (F0 m 17 ls [])) (L_0 : Nat → Nat → Int64) (v1 : Int32) (v2 : Int32) (H : Heap) (locs : List Loc) (ls : Array Slot), HS D A H0 [(h_0, oX6 h_0_of h_0_kept h_0_column h_0_size h_0_hidden h_0_cell h_0_home h_0_waste h_0_stock h_0_past h_0_start h_0_known h_0_sorted h_0_row h_0_best I_0), (h_0_of, eI cI 9 (I_0 1)), (h_0_kept, eI cI 9 (I_0 2)), (h_0_column, eJ cJ 5 (L_0 0)), (h_0_size, eI cI 5 (I_0 3)), (h_0_hidden, eI cI 5 (I_0 4)), (h_0_cell, eI cI 2 (I_0 5)), (h_0_home, eI cI 4 (I_0 6)), (h_0_waste, eI cI 8 (I_0 7)), (h_0_stock, eI cI 8 (I_0 8)), (h_0_past, eJ cJ 1616 (L_0 1)), (h_0_start, eJ cJ 8 (L_0 2)), (h_0_known, eJ cJ 3216 (L_0 3)), (h_0_sorted, eJ cJ 3216 (L_0 4)), (h_0_row, eI cI 16 (I_0 9)), (h_0_best, eJ cJ 8 (L_0 5))] H locs → lv_has ls 4 [(0, .ref h_0), (1, .int v1), (2, .int v2)] → F_X6_isKnown_b80 I_0 K17 L_0 v1 v2 = some (rv, r_L_0) → W p l e ({ frames := 2, cells := 0, slots := 0, locals := 57 } : Room) s m args below meth c H locs 0 0 Q (F0 m 80 ls []) := by
    intro K17 hK17 L_0 v1 v2 H locs ls hS hl hF
    unfold F_X6_isKnown_b80 at hF
    refine lv_iload_n hx hb dX6_isKnown_80 rfl (lv_at hl 2 rfl) ?_
    refine lv_if_eq (tgt := 86) hx hb dX6_isKnown_81 (by decide) (fun c_1 => ?_) (fun c_1 => ?_)
    · replace hF := ifp hF c_1
      refine lv_iinc (v := v1 + (nI 1)) (lv' := [(1, .int (v1 + (nI 1))), (0, .ref h_0), (2, .int v2)]) hx hb dX6_isKnown_86 hl (k := 1) rfl rfl (by decide) rfl (fun ls hl => ?_)
      refine lv_goto (tgt := 17) hx hb dX6_isKnown_89 (by decide) ?_
      exact hK17 L_0 (v1 + (nI 1)) _ _ _ hS (lv_sub hl [1, 0] rfl) hF
    · replace hF := ifn hF c_1
      refine lv_iconst (v := (nI 1)) hx hb dX6_isKnown_84 (by decide) ?_
      replace hF := zb_e hF
      obtain ⟨h01_2, hF⟩ := hF
      have e9_0 := Option.some.inj hF
      obtain ⟨f9_0, e9_1⟩ := Prod.mk.inj e9_0
      subst f9_0
      subst e9_1
      exact kret _ _ _ _ h01_2 hS dX6_isKnown_85
  have S29 : ∀ (K17 : (Nat → Nat → Int64) → Int32 → Option (Int32 × (Nat → Nat → Int64))) (_ : ∀ (L_0 : Nat → Nat → Int64) (v1 : Int32) (H : Heap) (locs : List Loc) (ls : Array Slot), HS D A H0 [(h_0, oX6 h_0_of h_0_kept h_0_column h_0_size h_0_hidden h_0_cell h_0_home h_0_waste h_0_stock h_0_past h_0_start h_0_known h_0_sorted h_0_row h_0_best I_0), (h_0_of, eI cI 9 (I_0 1)), (h_0_kept, eI cI 9 (I_0 2)), (h_0_column, eJ cJ 5 (L_0 0)), (h_0_size, eI cI 5 (I_0 3)), (h_0_hidden, eI cI 5 (I_0 4)), (h_0_cell, eI cI 2 (I_0 5)), (h_0_home, eI cI 4 (I_0 6)), (h_0_waste, eI cI 8 (I_0 7)), (h_0_stock, eI cI 8 (I_0 8)), (h_0_past, eJ cJ 1616 (L_0 1)), (h_0_start, eJ cJ 8 (L_0 2)), (h_0_known, eJ cJ 3216 (L_0 3)), (h_0_sorted, eJ cJ 3216 (L_0 4)), (h_0_row, eI cI 16 (I_0 9)), (h_0_best, eJ cJ 8 (L_0 5))] H locs → lv_has ls 4 [(0, .ref h_0), (1, .int v1)] → K17 L_0 v1 = some (rv, r_L_0) → W p l e ({ frames := 2, cells := 0, slots := 0, locals := 57 } : Room) s m args below meth c H locs 0 0 Q (F0 m 17 ls [])) (K29 : (Nat → Nat → Int64) → Int32 → Int32 → Int32 → Option (Int32 × (Nat → Nat → Int64))) (_ : ∀ (L_0 : Nat → Nat → Int64) (v1 : Int32) (v2 : Int32) (v3 : Int32) (H : Heap) (locs : List Loc) (ls : Array Slot), HS D A H0 [(h_0, oX6 h_0_of h_0_kept h_0_column h_0_size h_0_hidden h_0_cell h_0_home h_0_waste h_0_stock h_0_past h_0_start h_0_known h_0_sorted h_0_row h_0_best I_0), (h_0_of, eI cI 9 (I_0 1)), (h_0_kept, eI cI 9 (I_0 2)), (h_0_column, eJ cJ 5 (L_0 0)), (h_0_size, eI cI 5 (I_0 3)), (h_0_hidden, eI cI 5 (I_0 4)), (h_0_cell, eI cI 2 (I_0 5)), (h_0_home, eI cI 4 (I_0 6)), (h_0_waste, eI cI 8 (I_0 7)), (h_0_stock, eI cI 8 (I_0 8)), (h_0_past, eJ cJ 1616 (L_0 1)), (h_0_start, eJ cJ 8 (L_0 2)), (h_0_known, eJ cJ 3216 (L_0 3)), (h_0_sorted, eJ cJ 3216 (L_0 4)), (h_0_row, eI cI 16 (I_0 9)), (h_0_best, eJ cJ 8 (L_0 5))] H locs → lv_has ls 4 [(0, .ref h_0), (1, .int v1), (2, .int v2), (3, .int v3)] → K29 L_0 v1 v2 v3 = some (rv, r_L_0) → W p l e ({ frames := 2, cells := 0, slots := 0, locals := 57 } : Room) s m args below meth c H locs 0 0 Q (F0 m 29 ls [])) (L_0 : Nat → Nat → Int64) (v1 : Int32) (v2 : Int32) (v3 : Int32) (H : Heap) (locs : List Loc) (ls : Array Slot), HS D A H0 [(h_0, oX6 h_0_of h_0_kept h_0_column h_0_size h_0_hidden h_0_cell h_0_home h_0_waste h_0_stock h_0_past h_0_start h_0_known h_0_sorted h_0_row h_0_best I_0), (h_0_of, eI cI 9 (I_0 1)), (h_0_kept, eI cI 9 (I_0 2)), (h_0_column, eJ cJ 5 (L_0 0)), (h_0_size, eI cI 5 (I_0 3)), (h_0_hidden, eI cI 5 (I_0 4)), (h_0_cell, eI cI 2 (I_0 5)), (h_0_home, eI cI 4 (I_0 6)), (h_0_waste, eI cI 8 (I_0 7)), (h_0_stock, eI cI 8 (I_0 8)), (h_0_past, eJ cJ 1616 (L_0 1)), (h_0_start, eJ cJ 8 (L_0 2)), (h_0_known, eJ cJ 3216 (L_0 3)), (h_0_sorted, eJ cJ 3216 (L_0 4)), (h_0_row, eI cI 16 (I_0 9)), (h_0_best, eJ cJ 8 (L_0 5))] H locs → lv_has ls 4 [(0, .ref h_0), (1, .int v1), (2, .int v2), (3, .int v3)] → F_X6_isKnown_s29 I_0 K17 K29 L_0 v1 v2 v3 = some (rv, r_L_0) → W p l e ({ frames := 2, cells := 0, slots := 0, locals := 57 } : Room) s m args below meth c H locs 0 0 Q (F0 m 29 ls []) := by
    intro K17 hK17 K29 hK29 L_0 v1 v2 v3 H locs ls hS hl hF
    unfold F_X6_isKnown_s29 at hF
    refine lv_iload_n hx hb dX6_isKnown_29 rfl (lv_at hl 3 rfl) ?_
    refine lv_bipush (v := (nI 8)) hx hb dX6_isKnown_30 (by decide) ?_
    refine lv_icmp_ge (tgt := 80) hx hb dX6_isKnown_32 (by decide) (fun c_3 => ?_) (fun c_3 => ?_)
    · replace hF := ifp hF c_3
      exact B80 K17 hK17 L_0 v1 v2 _ _ _ hS (lv_sub hl [0, 1, 2] rfl) hF
    · replace hF := ifn hF c_3
      refine lv_iload_n hx hb dX6_isKnown_35 rfl (lv_at hl 2 rfl) ?_
      refine lv_if_eq (tgt := 80) hx hb dX6_isKnown_36 (by decide) (fun c_4 => ?_) (fun c_4 => ?_)
      · replace hF := ifp hF c_4
        exact B80 K17 hK17 L_0 v1 v2 _ _ _ hS (lv_sub hl [0, 1, 2] rfl) hF
      · replace hF := ifn hF c_4
        refine lv_aload_n hx hb dX6_isKnown_39 rfl (lv_at hl 0 rfl) ?_
        refine r_get hx hb hts inX6 hown hK hS 0 28 rfl rfl (by decide) q0 rfl dX6_isKnown_40 ?_
        refine lv_bipush (v := (nI 8)) hx hb dX6_isKnown_43 (by decide) ?_
        refine lv_iload_n hx hb dX6_isKnown_45 rfl (lv_at hl 1 rfl) ?_
        refine lv_imul hx hb dX6_isKnown_46 ?_
        refine lv_iload_n hx hb dX6_isKnown_47 rfl (lv_at hl 3 rfl) ?_
        refine lv_iadd hx hb dX6_isKnown_48 ?_
        replace hF := rdA_e hF
        obtain ⟨hi6, x5, ex5, hF⟩ := hF
        refine r_lald hx hb hK hS 13 rfl rfl hi6 dX6_isKnown_49 ex5 ?_
        refine lv_aload_n hx hb dX6_isKnown_50 rfl (lv_at hl 0 rfl) ?_
        refine r_get hx hb hts inX6 hown hK hS 0 28 rfl rfl (by decide) q0 rfl dX6_isKnown_51 ?_
        refine lv_bipush (v := (nI 8)) hx hb dX6_isKnown_54 (by decide) ?_
        refine lv_aload_n hx hb dX6_isKnown_56 rfl (lv_at hl 0 rfl) ?_
        refine r_get hx hb hts inX6 hown hK hS 0 29 rfl rfl (by decide) q2 rfl dX6_isKnown_57 ?_
        refine lv_imul hx hb dX6_isKnown_60 ?_
        refine lv_iload_n hx hb dX6_isKnown_61 rfl (lv_at hl 3 rfl) ?_
        refine lv_iadd hx hb dX6_isKnown_62 ?_
        replace hF := rdA_e hF
        obtain ⟨hi8, x7, ex7, hF⟩ := hF
        refine r_lald hx hb hK hS 13 rfl rfl hi8 dX6_isKnown_63 ex7 ?_
        refine W.lcmp hx hb dX6_isKnown_64 ?_
        refine lv_if_ne (tgt := 72) hx hb dX6_isKnown_65 (by decide) (fun c_9 => ?_) (fun c_9 => ?_)
        · replace hF := ifn hF c_9
          refine lv_iconst (v := (nI 0)) hx hb dX6_isKnown_72 (by decide) ?_
          refine lv_istore_n (lv' := [(2, .int (nI 0)), (0, .ref h_0), (1, .int v1), (3, .int v3)]) hx hb dX6_isKnown_73 rfl hl (by decide) rfl (fun ls hl => ?_)
          refine lv_iinc (v := v3 + (nI 1)) (lv' := [(3, .int (v3 + (nI 1))), (2, .int (nI 0)), (0, .ref h_0), (1, .int v1)]) hx hb dX6_isKnown_74 hl (k := 3) rfl rfl (by decide) rfl (fun ls hl => ?_)
          refine lv_goto (tgt := 29) hx hb dX6_isKnown_77 (by decide) ?_
          exact hK29 L_0 v1 (nI 0) (v3 + (nI 1)) _ _ _ hS (lv_sub hl [2, 3, 1, 0] rfl) hF
        · replace hF := ifp hF c_9
          refine lv_iconst (v := (nI 1)) hx hb dX6_isKnown_68 (by decide) ?_
          refine lv_goto (tgt := 73) hx hb dX6_isKnown_69 (by decide) ?_
          refine lv_istore_n (lv' := [(2, .int (nI 1)), (0, .ref h_0), (1, .int v1), (3, .int v3)]) hx hb dX6_isKnown_73 rfl hl (by decide) rfl (fun ls hl => ?_)
          refine lv_iinc (v := v3 + (nI 1)) (lv' := [(3, .int (v3 + (nI 1))), (2, .int (nI 1)), (0, .ref h_0), (1, .int v1)]) hx hb dX6_isKnown_74 hl (k := 3) rfl rfl (by decide) rfl (fun ls hl => ?_)
          refine lv_goto (tgt := 29) hx hb dX6_isKnown_77 (by decide) ?_
          exact hK29 L_0 v1 (nI 1) (v3 + (nI 1)) _ _ _ hS (lv_sub hl [2, 3, 1, 0] rfl) hF
  have L29 : ∀ (K17 : (Nat → Nat → Int64) → Int32 → Option (Int32 × (Nat → Nat → Int64))) (_ : ∀ (L_0 : Nat → Nat → Int64) (v1 : Int32) (H : Heap) (locs : List Loc) (ls : Array Slot), HS D A H0 [(h_0, oX6 h_0_of h_0_kept h_0_column h_0_size h_0_hidden h_0_cell h_0_home h_0_waste h_0_stock h_0_past h_0_start h_0_known h_0_sorted h_0_row h_0_best I_0), (h_0_of, eI cI 9 (I_0 1)), (h_0_kept, eI cI 9 (I_0 2)), (h_0_column, eJ cJ 5 (L_0 0)), (h_0_size, eI cI 5 (I_0 3)), (h_0_hidden, eI cI 5 (I_0 4)), (h_0_cell, eI cI 2 (I_0 5)), (h_0_home, eI cI 4 (I_0 6)), (h_0_waste, eI cI 8 (I_0 7)), (h_0_stock, eI cI 8 (I_0 8)), (h_0_past, eJ cJ 1616 (L_0 1)), (h_0_start, eJ cJ 8 (L_0 2)), (h_0_known, eJ cJ 3216 (L_0 3)), (h_0_sorted, eJ cJ 3216 (L_0 4)), (h_0_row, eI cI 16 (I_0 9)), (h_0_best, eJ cJ 8 (L_0 5))] H locs → lv_has ls 4 [(0, .ref h_0), (1, .int v1)] → K17 L_0 v1 = some (rv, r_L_0) → W p l e ({ frames := 2, cells := 0, slots := 0, locals := 57 } : Room) s m args below meth c H locs 0 0 Q (F0 m 17 ls [])) (n : Nat) (L_0 : Nat → Nat → Int64) (v1 : Int32) (v2 : Int32) (v3 : Int32) (H : Heap) (locs : List Loc) (ls : Array Slot), HS D A H0 [(h_0, oX6 h_0_of h_0_kept h_0_column h_0_size h_0_hidden h_0_cell h_0_home h_0_waste h_0_stock h_0_past h_0_start h_0_known h_0_sorted h_0_row h_0_best I_0), (h_0_of, eI cI 9 (I_0 1)), (h_0_kept, eI cI 9 (I_0 2)), (h_0_column, eJ cJ 5 (L_0 0)), (h_0_size, eI cI 5 (I_0 3)), (h_0_hidden, eI cI 5 (I_0 4)), (h_0_cell, eI cI 2 (I_0 5)), (h_0_home, eI cI 4 (I_0 6)), (h_0_waste, eI cI 8 (I_0 7)), (h_0_stock, eI cI 8 (I_0 8)), (h_0_past, eJ cJ 1616 (L_0 1)), (h_0_start, eJ cJ 8 (L_0 2)), (h_0_known, eJ cJ 3216 (L_0 3)), (h_0_sorted, eJ cJ 3216 (L_0 4)), (h_0_row, eI cI 16 (I_0 9)), (h_0_best, eJ cJ 8 (L_0 5))] H locs → lv_has ls 4 [(0, .ref h_0), (1, .int v1), (2, .int v2), (3, .int v3)] → F_X6_isKnown_L29 I_0 K17 n L_0 v1 v2 v3 = some (rv, r_L_0) → W p l e ({ frames := 2, cells := 0, slots := 0, locals := 57 } : Room) s m args below meth c H locs 0 0 Q (F0 m 29 ls []) := by
    intro K17 hK17 n
    induction n with
    | zero => intro L_0 v1 v2 v3 H locs ls hS hl hF; exact nomatch (show (none : Option (Int32 × (Nat → Nat → Int64))) = some _ from hF)
    | succ n ih => intro L_0 v1 v2 v3 H locs ls hS hl hF; exact S29 K17 hK17 _ ih L_0 v1 v2 v3 H locs ls hS hl hF
  have S17 : ∀ (K17 : (Nat → Nat → Int64) → Int32 → Option (Int32 × (Nat → Nat → Int64))) (_ : ∀ (L_0 : Nat → Nat → Int64) (v1 : Int32) (H : Heap) (locs : List Loc) (ls : Array Slot), HS D A H0 [(h_0, oX6 h_0_of h_0_kept h_0_column h_0_size h_0_hidden h_0_cell h_0_home h_0_waste h_0_stock h_0_past h_0_start h_0_known h_0_sorted h_0_row h_0_best I_0), (h_0_of, eI cI 9 (I_0 1)), (h_0_kept, eI cI 9 (I_0 2)), (h_0_column, eJ cJ 5 (L_0 0)), (h_0_size, eI cI 5 (I_0 3)), (h_0_hidden, eI cI 5 (I_0 4)), (h_0_cell, eI cI 2 (I_0 5)), (h_0_home, eI cI 4 (I_0 6)), (h_0_waste, eI cI 8 (I_0 7)), (h_0_stock, eI cI 8 (I_0 8)), (h_0_past, eJ cJ 1616 (L_0 1)), (h_0_start, eJ cJ 8 (L_0 2)), (h_0_known, eJ cJ 3216 (L_0 3)), (h_0_sorted, eJ cJ 3216 (L_0 4)), (h_0_row, eI cI 16 (I_0 9)), (h_0_best, eJ cJ 8 (L_0 5))] H locs → lv_has ls 4 [(0, .ref h_0), (1, .int v1)] → K17 L_0 v1 = some (rv, r_L_0) → W p l e ({ frames := 2, cells := 0, slots := 0, locals := 57 } : Room) s m args below meth c H locs 0 0 Q (F0 m 17 ls [])) (L_0 : Nat → Nat → Int64) (v1 : Int32) (H : Heap) (locs : List Loc) (ls : Array Slot), HS D A H0 [(h_0, oX6 h_0_of h_0_kept h_0_column h_0_size h_0_hidden h_0_cell h_0_home h_0_waste h_0_stock h_0_past h_0_start h_0_known h_0_sorted h_0_row h_0_best I_0), (h_0_of, eI cI 9 (I_0 1)), (h_0_kept, eI cI 9 (I_0 2)), (h_0_column, eJ cJ 5 (L_0 0)), (h_0_size, eI cI 5 (I_0 3)), (h_0_hidden, eI cI 5 (I_0 4)), (h_0_cell, eI cI 2 (I_0 5)), (h_0_home, eI cI 4 (I_0 6)), (h_0_waste, eI cI 8 (I_0 7)), (h_0_stock, eI cI 8 (I_0 8)), (h_0_past, eJ cJ 1616 (L_0 1)), (h_0_start, eJ cJ 8 (L_0 2)), (h_0_known, eJ cJ 3216 (L_0 3)), (h_0_sorted, eJ cJ 3216 (L_0 4)), (h_0_row, eI cI 16 (I_0 9)), (h_0_best, eJ cJ 8 (L_0 5))] H locs → lv_has ls 4 [(0, .ref h_0), (1, .int v1)] → F_X6_isKnown_s17 I_0 K17 L_0 v1 = some (rv, r_L_0) → W p l e ({ frames := 2, cells := 0, slots := 0, locals := 57 } : Room) s m args below meth c H locs 0 0 Q (F0 m 17 ls []) := by
    intro K17 hK17 L_0 v1 H locs ls hS hl hF
    unfold F_X6_isKnown_s17 at hF
    refine lv_iload_n hx hb dX6_isKnown_17 rfl (lv_at hl 1 rfl) ?_
    refine lv_aload_n hx hb dX6_isKnown_18 rfl (lv_at hl 0 rfl) ?_
    refine r_get hx hb hts inX6 hown hK hS 0 29 rfl rfl (by decide) q2 rfl dX6_isKnown_19 ?_
    refine lv_icmp_ge (tgt := 92) hx hb dX6_isKnown_22 (by decide) (fun c_10 => ?_) (fun c_10 => ?_)
    · replace hF := ifp hF c_10
      refine lv_iconst (v := (nI 0)) hx hb dX6_isKnown_92 (by decide) ?_
      replace hF := zb_e hF
      obtain ⟨h01_11, hF⟩ := hF
      have e9_0 := Option.some.inj hF
      obtain ⟨f9_0, e9_1⟩ := Prod.mk.inj e9_0
      subst f9_0
      subst e9_1
      exact kret _ _ _ _ h01_11 hS dX6_isKnown_93
    · replace hF := ifn hF c_10
      refine lv_iconst (v := (nI 1)) hx hb dX6_isKnown_25 (by decide) ?_
      refine lv_istore_n (lv' := [(2, .int (nI 1)), (0, .ref h_0), (1, .int v1)]) hx hb dX6_isKnown_26 rfl hl (by decide) rfl (fun ls hl => ?_)
      refine lv_iconst (v := (nI 0)) hx hb dX6_isKnown_27 (by decide) ?_
      refine lv_istore_n (lv' := [(3, .int (nI 0)), (2, .int (nI 1)), (0, .ref h_0), (1, .int v1)]) hx hb dX6_isKnown_28 rfl hl (by decide) rfl (fun ls hl => ?_)
      exact L29 K17 hK17 FU L_0 v1 (nI 1) (nI 0) _ _ _ hS (lv_sub hl [2, 3, 1, 0] rfl) hF
  have L17 : ∀  (n : Nat) (L_0 : Nat → Nat → Int64) (v1 : Int32) (H : Heap) (locs : List Loc) (ls : Array Slot), HS D A H0 [(h_0, oX6 h_0_of h_0_kept h_0_column h_0_size h_0_hidden h_0_cell h_0_home h_0_waste h_0_stock h_0_past h_0_start h_0_known h_0_sorted h_0_row h_0_best I_0), (h_0_of, eI cI 9 (I_0 1)), (h_0_kept, eI cI 9 (I_0 2)), (h_0_column, eJ cJ 5 (L_0 0)), (h_0_size, eI cI 5 (I_0 3)), (h_0_hidden, eI cI 5 (I_0 4)), (h_0_cell, eI cI 2 (I_0 5)), (h_0_home, eI cI 4 (I_0 6)), (h_0_waste, eI cI 8 (I_0 7)), (h_0_stock, eI cI 8 (I_0 8)), (h_0_past, eJ cJ 1616 (L_0 1)), (h_0_start, eJ cJ 8 (L_0 2)), (h_0_known, eJ cJ 3216 (L_0 3)), (h_0_sorted, eJ cJ 3216 (L_0 4)), (h_0_row, eI cI 16 (I_0 9)), (h_0_best, eJ cJ 8 (L_0 5))] H locs → lv_has ls 4 [(0, .ref h_0), (1, .int v1)] → F_X6_isKnown_L17 I_0  n L_0 v1 = some (rv, r_L_0) → W p l e ({ frames := 2, cells := 0, slots := 0, locals := 57 } : Room) s m args below meth c H locs 0 0 Q (F0 m 17 ls []) := by
    intro  n
    induction n with
    | zero => intro L_0 v1 H locs ls hS hl hF; exact nomatch (show (none : Option (Int32 × (Nat → Nat → Int64))) = some _ from hF)
    | succ n ih => intro L_0 v1 H locs ls hS hl hF; exact S17  _ ih L_0 v1 H locs ls hS hl hF
  unfold F_X6_isKnown at hF
  refine lv_aload_n hx hb dX6_isKnown_0 rfl (lv_at hl 0 rfl) ?_
  refine lv_aload_n hx hb dX6_isKnown_1 rfl (lv_at hl 0 rfl) ?_
  refine r_get hx hb hts inX6 hown hK hS 0 28 rfl rfl (by decide) q0 rfl dX6_isKnown_2 ?_
  refine lv_bipush (v := (nI 8)) hx hb dX6_isKnown_5 (by decide) ?_
  refine lv_aload_n hx hb dX6_isKnown_7 rfl (lv_at hl 0 rfl) ?_
  refine r_get hx hb hts inX6 hown hK hS 0 29 rfl rfl (by decide) q2 rfl dX6_isKnown_8 ?_
  refine lv_imul hx hb dX6_isKnown_11 ?_
  replace hF := cal1_e hF
  obtain ⟨L_0u12, hc13, hF⟩ := hF
  refine kV_v (As := [.ref h_0_sorted, .int ((nI 8) * (I_0 0 29))]) (rest := []) (wr := []) (w2 := [(h_0, oX6 h_0_of h_0_kept h_0_column h_0_size h_0_hidden h_0_cell h_0_home h_0_waste h_0_stock h_0_past h_0_start h_0_known h_0_sorted h_0_row h_0_best I_0), (h_0_of, eI cI 9 (I_0 1)), (h_0_kept, eI cI 9 (I_0 2)), (h_0_column, eJ cJ 5 (L_0u12 0)), (h_0_size, eI cI 5 (I_0 3)), (h_0_hidden, eI cI 5 (I_0 4)), (h_0_cell, eI cI 2 (I_0 5)), (h_0_home, eI cI 4 (I_0 6)), (h_0_waste, eI cI 8 (I_0 7)), (h_0_stock, eI cI 8 (I_0 8)), (h_0_past, eJ cJ 1616 (L_0u12 1)), (h_0_start, eJ cJ 8 (L_0u12 2)), (h_0_known, eJ cJ 3216 (L_0u12 3)), (h_0_sorted, eJ cJ 3216 (L_0u12 4)), (h_0_row, eI cI 16 (I_0 9)), (h_0_best, eJ cJ 8 (L_0u12 5))]) hCF hK (c_X6_sort_sorted l D cI cJ h_0 h_0_of h_0_kept h_0_column h_0_size h_0_hidden h_0_cell h_0_home h_0_waste h_0_stock h_0_past h_0_start h_0_known h_0_sorted h_0_row h_0_best I_0 L_0 ((nI 8) * (I_0 0 29)) L_0u12 hc13) (cwV 2 hts (TBL_V mw_698 mw_699 mw_700 mw_5 mw_701) rfl rfl rfl pmX6_sort ⟨Nat.le_of_ble_eq_true rfl, Nat.le_of_ble_eq_true rfl⟩) hS hA [0, 1, 2, 3, 4, 5, 6, 7, 8, 9, 10, 11, 12, 13, 14, 15] [] rfl rfl rfl rfl (by decide) rfl rfl rfl hl.1 rfl (Nat.le_of_ble_eq_true rfl) ⟨Nat.zero_le _, Nat.zero_le _⟩ dX6_isKnown_12 rfl (fun H locs hS => ?_)
  refine lv_iconst (v := (nI 0)) hx hb dX6_isKnown_15 (by decide) ?_
  refine lv_istore_n (lv' := [(1, .int (nI 0)), (0, .ref h_0)]) hx hb dX6_isKnown_16 rfl hl (by decide) rfl (fun ls hl => ?_)
  exact L17 FU L_0u12 (nI 0) _ _ _ hS (lv_sub hl [1, 0] rfl) hF
set_option maxHeartbeats 4000000 in
set_option maxRecDepth 100000 in
theorem c_X6_learn (l : Launch) (D : va_G) (cI cJ : ClassId) (h_0 h_0_of h_0_kept h_0_column h_0_size h_0_hidden h_0_cell h_0_home h_0_waste h_0_stock h_0_past h_0_start h_0_known h_0_sorted h_0_row h_0_best : Nat) (I_0 : Nat → Nat → Int32) (L_0 : Nat → Nat → Int64) (v1 : Int32) (v2 : Int32) (v3 : Int32) (v4 : Int32) (v5 : Int32) (rv : Int32) (r_I_0 : Nat → Nat → Int32) (r_L_0 : Nat → Nat → Int64) (hF : F_X6_learn I_0 L_0 v1 v2 v3 v4 v5 = some (rv, r_I_0, r_L_0)) : CtI l D [(cI, .int), (cJ, .long)] yX6_learn wtX6_learn ({ frames := 4, cells := 0, slots := 0, locals := 91 } : Room) [.ref h_0, .int v1, .int v2, .int v3, .int v4, .int v5] [(h_0, oX6 h_0_of h_0_kept h_0_column h_0_size h_0_hidden h_0_cell h_0_home h_0_waste h_0_stock h_0_past h_0_start h_0_known h_0_sorted h_0_row h_0_best I_0), (h_0_of, eI cI 9 (I_0 1)), (h_0_kept, eI cI 9 (I_0 2)), (h_0_column, eJ cJ 5 (L_0 0)), (h_0_size, eI cI 5 (I_0 3)), (h_0_hidden, eI cI 5 (I_0 4)), (h_0_cell, eI cI 2 (I_0 5)), (h_0_home, eI cI 4 (I_0 6)), (h_0_waste, eI cI 8 (I_0 7)), (h_0_stock, eI cI 8 (I_0 8)), (h_0_past, eJ cJ 1616 (L_0 1)), (h_0_start, eJ cJ 8 (L_0 2)), (h_0_known, eJ cJ 3216 (L_0 3)), (h_0_sorted, eJ cJ 3216 (L_0 4)), (h_0_row, eI cI 16 (I_0 9)), (h_0_best, eJ cJ 8 (L_0 5))] [(h_0, oX6 h_0_of h_0_kept h_0_column h_0_size h_0_hidden h_0_cell h_0_home h_0_waste h_0_stock h_0_past h_0_start h_0_known h_0_sorted h_0_row h_0_best r_I_0), (h_0_of, eI cI 9 (r_I_0 1)), (h_0_kept, eI cI 9 (r_I_0 2)), (h_0_column, eJ cJ 5 (r_L_0 0)), (h_0_size, eI cI 5 (r_I_0 3)), (h_0_hidden, eI cI 5 (r_I_0 4)), (h_0_cell, eI cI 2 (r_I_0 5)), (h_0_home, eI cI 4 (r_I_0 6)), (h_0_waste, eI cI 8 (r_I_0 7)), (h_0_stock, eI cI 8 (r_I_0 8)), (h_0_past, eJ cJ 1616 (r_L_0 1)), (h_0_start, eJ cJ 8 (r_L_0 2)), (h_0_known, eJ cJ 3216 (r_L_0 3)), (h_0_sorted, eJ cJ 3216 (r_L_0 4)), (h_0_row, eI cI 16 (r_I_0 9)), (h_0_best, eJ cJ 8 (r_L_0 5))] rv := by
  refine CtI.of (cc := cX6_learn) (maxL := 7) (by decide) rfl (Nat.le_of_ble_eq_true rfl) ?_
  intro p e s m args below meth c A H0 Q ls X hS hl kret
  have hCF := X.1
  obtain ⟨⟨hx, hb, hml, hown, hts⟩, hK, hA⟩ := X
  have hl : lv_has ls 7 [(0, .ref h_0), (1, .int v1), (2, .int v2), (3, .int v3), (4, .int v4), (5, .int v5)] := hl
  have q0 := hts (.fieldLink RX6 60 "PatienceryModel" "known" "[J") (List.mem_cons_of_mem _ mw_172)
  have inX6 : ∀ w ∈ u_ws RX6 TX6 32, w ∈ wtX6_learn := fun w h => List.mem_cons_of_mem _ (inlX6 w h)
  have q2 := hts (.fieldLink RX6 228 "PatienceryModel" "many" "I") (List.mem_cons_of_mem _ mw_697)
  have B76 : ∀ (I_0 : Nat → Nat → Int32) (L_0 : Nat → Nat → Int64) (v1 : Int32) (v6 : Int32) (H : Heap) (locs : List Loc) (ls : Array Slot), HS D A H0 [(h_0, oX6 h_0_of h_0_kept h_0_column h_0_size h_0_hidden h_0_cell h_0_home h_0_waste h_0_stock h_0_past h_0_start h_0_known h_0_sorted h_0_row h_0_best I_0), (h_0_of, eI cI 9 (I_0 1)), (h_0_kept, eI cI 9 (I_0 2)), (h_0_column, eJ cJ 5 (L_0 0)), (h_0_size, eI cI 5 (I_0 3)), (h_0_hidden, eI cI 5 (I_0 4)), (h_0_cell, eI cI 2 (I_0 5)), (h_0_home, eI cI 4 (I_0 6)), (h_0_waste, eI cI 8 (I_0 7)), (h_0_stock, eI cI 8 (I_0 8)), (h_0_past, eJ cJ 1616 (L_0 1)), (h_0_start, eJ cJ 8 (L_0 2)), (h_0_known, eJ cJ 3216 (L_0 3)), (h_0_sorted, eJ cJ 3216 (L_0 4)), (h_0_row, eI cI 16 (I_0 9)), (h_0_best, eJ cJ 8 (L_0 5))] H locs → lv_has ls 7 [(0, .ref h_0), (1, .int v1), (6, .int v6)] → F_X6_learn_b76   I_0 L_0 v1 v6 = some (rv, r_I_0, r_L_0) → W p l e ({ frames := 4, cells := 0, slots := 0, locals := 91 } : Room) s m args below meth c H locs 0 0 Q (F0 m 76 ls []) := by
    intro I_0 L_0 v1 v6 H locs ls hS hl hF
    unfold F_X6_learn_b76 at hF
    refine lv_aload_n hx hb dX6_learn_76 rfl (lv_at hl 0 rfl) ?_
    refine lv_aload_n hx hb dX6_learn_77 rfl (lv_at hl 0 rfl) ?_
    refine r_get hx hb hts inX6 hown hK hS 0 27 rfl rfl (by decide) q0 rfl dX6_learn_78 ?_
    refine lv_bipush (v := (nI 8)) hx hb dX6_learn_81 (by decide) ?_
    refine lv_iload_n hx hb dX6_learn_83 rfl (lv_at hl 1 rfl) ?_
    refine lv_imul hx hb dX6_learn_84 ?_
    replace hF := cal2_e hF
    obtain ⟨I_0u1, L_0u2, hc3, hF⟩ := hF
    refine kV_v (As := [.ref h_0_known, .int ((nI 8) * v1)]) (rest := []) (wr := []) (w2 := [(h_0, oX6 h_0_of h_0_kept h_0_column h_0_size h_0_hidden h_0_cell h_0_home h_0_waste h_0_stock h_0_past h_0_start h_0_known h_0_sorted h_0_row h_0_best I_0u1), (h_0_of, eI cI 9 (I_0u1 1)), (h_0_kept, eI cI 9 (I_0u1 2)), (h_0_column, eJ cJ 5 (L_0u2 0)), (h_0_size, eI cI 5 (I_0u1 3)), (h_0_hidden, eI cI 5 (I_0u1 4)), (h_0_cell, eI cI 2 (I_0u1 5)), (h_0_home, eI cI 4 (I_0u1 6)), (h_0_waste, eI cI 8 (I_0u1 7)), (h_0_stock, eI cI 8 (I_0u1 8)), (h_0_past, eJ cJ 1616 (L_0u2 1)), (h_0_start, eJ cJ 8 (L_0u2 2)), (h_0_known, eJ cJ 3216 (L_0u2 3)), (h_0_sorted, eJ cJ 3216 (L_0u2 4)), (h_0_row, eI cI 16 (I_0u1 9)), (h_0_best, eJ cJ 8 (L_0u2 5))]) hCF hK (c_X6_load_known l D cI cJ h_0 h_0_of h_0_kept h_0_column h_0_size h_0_hidden h_0_cell h_0_home h_0_waste h_0_stock h_0_past h_0_start h_0_known h_0_sorted h_0_row h_0_best I_0 L_0 ((nI 8) * v1) I_0u1 L_0u2 hc3) (cwV 2 hts (TBL_V mw_331 mw_332 mw_333 mw_5 mw_334) rfl rfl rfl pmX6_load ⟨Nat.le_of_ble_eq_true rfl, Nat.le_of_ble_eq_true rfl⟩) hS hA [0, 1, 2, 3, 4, 5, 6, 7, 8, 9, 10, 11, 12, 13, 14, 15] [] rfl rfl rfl rfl (by decide) rfl rfl rfl hl.1 rfl (Nat.le_of_ble_eq_true rfl) ⟨Nat.zero_le _, Nat.zero_le _⟩ dX6_learn_85 rfl (fun H locs hS => ?_)
    refine lv_iload hx hb dX6_learn_88 (lv_at hl 2 rfl) ?_
    have e9_0 := Option.some.inj hF
    obtain ⟨f9_0, e9_1⟩ := Prod.mk.inj e9_0
    obtain ⟨f9_1, e9_2⟩ := Prod.mk.inj e9_1
    subst f9_0
    subst f9_1
    subst e9_2
    exact kret _ _ _ _ hS dX6_learn_90
  have B43 : ∀ (I_0 : Nat → Nat → Int32) (L_0 : Nat → Nat → Int64) (v1 : Int32) (s0 : Int32) (H : Heap) (locs : List Loc) (ls : Array Slot), HS D A H0 [(h_0, oX6 h_0_of h_0_kept h_0_column h_0_size h_0_hidden h_0_cell h_0_home h_0_waste h_0_stock h_0_past h_0_start h_0_known h_0_sorted h_0_row h_0_best I_0), (h_0_of, eI cI 9 (I_0 1)), (h_0_kept, eI cI 9 (I_0 2)), (h_0_column, eJ cJ 5 (L_0 0)), (h_0_size, eI cI 5 (I_0 3)), (h_0_hidden, eI cI 5 (I_0 4)), (h_0_cell, eI cI 2 (I_0 5)), (h_0_home, eI cI 4 (I_0 6)), (h_0_waste, eI cI 8 (I_0 7)), (h_0_stock, eI cI 8 (I_0 8)), (h_0_past, eJ cJ 1616 (L_0 1)), (h_0_start, eJ cJ 8 (L_0 2)), (h_0_known, eJ cJ 3216 (L_0 3)), (h_0_sorted, eJ cJ 3216 (L_0 4)), (h_0_row, eI cI 16 (I_0 9)), (h_0_best, eJ cJ 8 (L_0 5))] H locs → lv_has ls 7 [(0, .ref h_0), (1, .int v1)] → F_X6_learn_b43   I_0 L_0 v1 s0 = some (rv, r_I_0, r_L_0) → W p l e ({ frames := 4, cells := 0, slots := 0, locals := 91 } : Room) s m args below meth c H locs 0 0 Q (F0 m 43 ls [.int s0]) := by
    intro I_0 L_0 v1 s0 H locs ls hS hl hF
    unfold F_X6_learn_b43 at hF
    refine lv_istore (lv' := [(6, .int s0), (0, .ref h_0), (1, .int v1)]) hx hb dX6_learn_43 hl (by decide) rfl (fun ls hl => ?_)
    refine lv_iload hx hb dX6_learn_45 (lv_at hl 0 rfl) ?_
    refine lv_iconst (v := (nI 2)) hx hb dX6_learn_47 (by decide) ?_
    refine lv_icmp_ge (tgt := 76) hx hb dX6_learn_48 (by decide) (fun c_4 => ?_) (fun c_4 => ?_)
    · replace hF := ifp hF c_4
      exact B76 I_0 L_0 v1 s0 _ _ _ hS (lv_sub hl [1, 2, 0] rfl) hF
    · replace hF := ifn hF c_4
      refine lv_aload_n hx hb dX6_learn_51 rfl (lv_at hl 1 rfl) ?_
      refine lv_aload_n hx hb dX6_learn_52 rfl (lv_at hl 1 rfl) ?_
      refine r_get hx hb hts inX6 hown hK hS 0 27 rfl rfl (by decide) q0 rfl dX6_learn_53 ?_
      refine lv_bipush (v := (nI 8)) hx hb dX6_learn_56 (by decide) ?_
      refine lv_aload_n hx hb dX6_learn_58 rfl (lv_at hl 1 rfl) ?_
      refine r_get hx hb hts inX6 hown hK hS 0 29 rfl rfl (by decide) q2 rfl dX6_learn_59 ?_
      refine lv_imul hx hb dX6_learn_62 ?_
      replace hF := cal1_e hF
      obtain ⟨L_0u5, hc6, hF⟩ := hF
      refine kV_v (As := [.ref h_0_known, .int ((nI 8) * (I_0 0 29))]) (rest := []) (wr := []) (w2 := [(h_0, oX6 h_0_of h_0_kept h_0_column h_0_size h_0_hidden h_0_cell h_0_home h_0_waste h_0_stock h_0_past h_0_start h_0_known h_0_sorted h_0_row h_0_best I_0), (h_0_of, eI cI 9 (I_0 1)), (h_0_kept, eI cI 9 (I_0 2)), (h_0_column, eJ cJ 5 (L_0u5 0)), (h_0_size, eI cI 5 (I_0 3)), (h_0_hidden, eI cI 5 (I_0 4)), (h_0_cell, eI cI 2 (I_0 5)), (h_0_home, eI cI 4 (I_0 6)), (h_0_waste, eI cI 8 (I_0 7)), (h_0_stock, eI cI 8 (I_0 8)), (h_0_past, eJ cJ 1616 (L_0u5 1)), (h_0_start, eJ cJ 8 (L_0u5 2)), (h_0_known, eJ cJ 3216 (L_0u5 3)), (h_0_sorted, eJ cJ 3216 (L_0u5 4)), (h_0_row, eI cI 16 (I_0 9)), (h_0_best, eJ cJ 8 (L_0u5 5))]) hCF hK (c_X6_store_known l D cI cJ h_0 h_0_of h_0_kept h_0_column h_0_size h_0_hidden h_0_cell h_0_home h_0_waste h_0_stock h_0_past h_0_start h_0_known h_0_sorted h_0_row h_0_best I_0 L_0 ((nI 8) * (I_0 0 29)) L_0u5 hc6) (cwV 2 hts (TBL_V mw_209 mw_210 mw_211 mw_5 mw_212) rfl rfl rfl pmX6_store ⟨Nat.le_of_ble_eq_true rfl, Nat.le_of_ble_eq_true rfl⟩) hS hA [0, 1, 2, 3, 4, 5, 6, 7, 8, 9, 10, 11, 12, 13, 14, 15] [] rfl rfl rfl rfl (by decide) rfl rfl rfl hl.1 rfl (Nat.le_of_ble_eq_true rfl) ⟨Nat.zero_le _, Nat.zero_le _⟩ dX6_learn_63 rfl (fun H locs hS => ?_)
      refine lv_aload_n hx hb dX6_learn_66 rfl (lv_at hl 1 rfl) ?_
      refine lv_dup hx hb dX6_learn_67 rfl ?_
      refine r_get hx hb hts inX6 hown hK hS 0 29 rfl rfl (by decide) q2 rfl dX6_learn_68 ?_
      refine lv_iconst (v := (nI 1)) hx hb dX6_learn_71 (by decide) ?_
      refine lv_iadd hx hb dX6_learn_72 ?_
      replace hF := bnd_e hF
      obtain ⟨I_0u7, eI_0u7, hF⟩ := hF
      refine r_put (w2 := [(h_0, oX6 h_0_of h_0_kept h_0_column h_0_size h_0_hidden h_0_cell h_0_home h_0_waste h_0_stock h_0_past h_0_start h_0_known h_0_sorted h_0_row h_0_best I_0u7), (h_0_of, eI cI 9 (I_0u7 1)), (h_0_kept, eI cI 9 (I_0u7 2)), (h_0_column, eJ cJ 5 (L_0u5 0)), (h_0_size, eI cI 5 (I_0u7 3)), (h_0_hidden, eI cI 5 (I_0u7 4)), (h_0_cell, eI cI 2 (I_0u7 5)), (h_0_home, eI cI 4 (I_0u7 6)), (h_0_waste, eI cI 8 (I_0u7 7)), (h_0_stock, eI cI 8 (I_0u7 8)), (h_0_past, eJ cJ 1616 (L_0u5 1)), (h_0_start, eJ cJ 8 (L_0u5 2)), (h_0_known, eJ cJ 3216 (L_0u5 3)), (h_0_sorted, eJ cJ 3216 (L_0u5 4)), (h_0_row, eI cI 16 (I_0u7 9)), (h_0_best, eJ cJ 8 (L_0u5 5))]) hx hb hts inX6 tyX6 tyX6_ok nmX6 hown hK hS 0 29 rfl rfl (by decide) q2 rfl rfl rfl (Nat.le_of_ble_eq_true rfl) dX6_learn_73 (by rw [eI_0u7]; rfl) (fun H locs hS => ?_)
      exact B76 I_0u7 L_0u5 v1 s0 _ _ _ hS (lv_sub hl [1, 2, 0] rfl) hF
  unfold F_X6_learn at hF
  refine lv_aload_n hx hb dX6_learn_0 rfl (lv_at hl 0 rfl) ?_
  refine lv_iload_n hx hb dX6_learn_1 rfl (lv_at hl 2 rfl) ?_
  refine lv_iload_n hx hb dX6_learn_2 rfl (lv_at hl 3 rfl) ?_
  refine lv_iload hx hb dX6_learn_3 (lv_at hl 4 rfl) ?_
  replace hF := cal2_e hF
  obtain ⟨I_0u8, L_0u9, hc10, hF⟩ := hF
  refine kV_v (As := [.int v2, .int v3, .int v4]) (rest := []) (wr := []) (w2 := [(h_0, oX6 h_0_of h_0_kept h_0_column h_0_size h_0_hidden h_0_cell h_0_home h_0_waste h_0_stock h_0_past h_0_start h_0_known h_0_sorted h_0_row h_0_best I_0u8), (h_0_of, eI cI 9 (I_0u8 1)), (h_0_kept, eI cI 9 (I_0u8 2)), (h_0_column, eJ cJ 5 (L_0u9 0)), (h_0_size, eI cI 5 (I_0u8 3)), (h_0_hidden, eI cI 5 (I_0u8 4)), (h_0_cell, eI cI 2 (I_0u8 5)), (h_0_home, eI cI 4 (I_0u8 6)), (h_0_waste, eI cI 8 (I_0u8 7)), (h_0_stock, eI cI 8 (I_0u8 8)), (h_0_past, eJ cJ 1616 (L_0u9 1)), (h_0_start, eJ cJ 8 (L_0u9 2)), (h_0_known, eJ cJ 3216 (L_0u9 3)), (h_0_sorted, eJ cJ 3216 (L_0u9 4)), (h_0_row, eI cI 16 (I_0u8 9)), (h_0_best, eJ cJ 8 (L_0u9 5))]) hCF hK (c_X6_play l D cI cJ h_0 h_0_of h_0_kept h_0_column h_0_size h_0_hidden h_0_cell h_0_home h_0_waste h_0_stock h_0_past h_0_start h_0_known h_0_sorted h_0_row h_0_best I_0 L_0 v2 v3 v4 I_0u8 L_0u9 hc10) (cwV 3 hts (TBL_V mw_489 mw_490 mw_491 mw_5 mw_492) rfl rfl rfl pmX6_play ⟨Nat.le_of_ble_eq_true rfl, Nat.le_of_ble_eq_true rfl⟩) hS hA [0, 1, 2, 3, 4, 5, 6, 7, 8, 9, 10, 11, 12, 13, 14, 15] [] rfl rfl rfl rfl (by decide) rfl rfl rfl hl.1 rfl (Nat.le_of_ble_eq_true rfl) ⟨Nat.zero_le _, Nat.zero_le _⟩ dX6_learn_5 rfl (fun H locs hS => ?_)
  refine lv_iconst (v := (nI 0)) hx hb dX6_learn_8 (by decide) ?_
  refine lv_istore (lv' := [(6, .int (nI 0)), (0, .ref h_0), (1, .int v1), (2, .int v2), (3, .int v3), (4, .int v4), (5, .int v5)]) hx hb dX6_learn_9 hl (by decide) rfl (fun ls hl => ?_)
  refine lv_aload_n hx hb dX6_learn_11 rfl (lv_at hl 1 rfl) ?_
  replace hF := cal2_e hF
  obtain ⟨x11, L_0u12, hc13, hF⟩ := hF
  refine kV_i (As := []) (rest := []) (wr := []) (w2 := [(h_0, oX6 h_0_of h_0_kept h_0_column h_0_size h_0_hidden h_0_cell h_0_home h_0_waste h_0_stock h_0_past h_0_start h_0_known h_0_sorted h_0_row h_0_best I_0u8), (h_0_of, eI cI 9 (I_0u8 1)), (h_0_kept, eI cI 9 (I_0u8 2)), (h_0_column, eJ cJ 5 (L_0u12 0)), (h_0_size, eI cI 5 (I_0u8 3)), (h_0_hidden, eI cI 5 (I_0u8 4)), (h_0_cell, eI cI 2 (I_0u8 5)), (h_0_home, eI cI 4 (I_0u8 6)), (h_0_waste, eI cI 8 (I_0u8 7)), (h_0_stock, eI cI 8 (I_0u8 8)), (h_0_past, eJ cJ 1616 (L_0u12 1)), (h_0_start, eJ cJ 8 (L_0u12 2)), (h_0_known, eJ cJ 3216 (L_0u12 3)), (h_0_sorted, eJ cJ 3216 (L_0u12 4)), (h_0_row, eI cI 16 (I_0u8 9)), (h_0_best, eJ cJ 8 (L_0u12 5))]) hCF hK (c_X6_isKnown l D cI cJ h_0 h_0_of h_0_kept h_0_column h_0_size h_0_hidden h_0_cell h_0_home h_0_waste h_0_stock h_0_past h_0_start h_0_known h_0_sorted h_0_row h_0_best I_0u8 L_0u9 x11 L_0u12 hc13) (cwV 0 hts (TBL_V mw_714 mw_715 mw_716 mw_5 mw_717) rfl rfl rfl pmX6_isKnown ⟨Nat.le_of_ble_eq_true rfl, Nat.le_of_ble_eq_true rfl⟩) hS hA [0, 1, 2, 3, 4, 5, 6, 7, 8, 9, 10, 11, 12, 13, 14, 15] [] rfl rfl rfl rfl (by decide) rfl rfl rfl hl.1 rfl (Nat.le_of_ble_eq_true rfl) ⟨Nat.zero_le _, Nat.zero_le _⟩ dX6_learn_12 rfl (fun H locs hS => ?_)
  refine lv_if_ne (tgt := 76) hx hb dX6_learn_15 (by decide) (fun c_14 => ?_) (fun c_14 => ?_)
  · replace hF := ifn hF c_14
    exact B76 I_0u8 L_0u12 v1 (nI 0) _ _ _ hS (lv_sub hl [1, 2, 0] rfl) hF
  · replace hF := ifp hF c_14
    refine lv_aload_n hx hb dX6_learn_18 rfl (lv_at hl 1 rfl) ?_
    refine r_get hx hb hts inX6 hown hK hS 0 29 rfl rfl (by decide) q2 rfl dX6_learn_19 ?_
    refine lv_iload hx hb dX6_learn_22 (lv_at hl 6 rfl) ?_
    refine lv_icmp_ne (tgt := 31) hx hb dX6_learn_24 (by decide) (fun c_15 => ?_) (fun c_15 => ?_)
    · replace hF := ifn hF c_15
      refine lv_aload_n hx hb dX6_learn_31 rfl (lv_at hl 1 rfl) ?_
      replace hF := cal1_e hF
      obtain ⟨x16, hc17, hF⟩ := hF
      refine kV_i (As := []) (rest := []) (wr := []) (w2 := [(h_0, oX6 h_0_of h_0_kept h_0_column h_0_size h_0_hidden h_0_cell h_0_home h_0_waste h_0_stock h_0_past h_0_start h_0_known h_0_sorted h_0_row h_0_best I_0u8), (h_0_of, eI cI 9 (I_0u8 1)), (h_0_kept, eI cI 9 (I_0u8 2)), (h_0_column, eJ cJ 5 (L_0u12 0)), (h_0_size, eI cI 5 (I_0u8 3)), (h_0_hidden, eI cI 5 (I_0u8 4)), (h_0_cell, eI cI 2 (I_0u8 5)), (h_0_home, eI cI 4 (I_0u8 6)), (h_0_waste, eI cI 8 (I_0u8 7)), (h_0_stock, eI cI 8 (I_0u8 8)), (h_0_past, eJ cJ 1616 (L_0u12 1)), (h_0_start, eJ cJ 8 (L_0u12 2)), (h_0_known, eJ cJ 3216 (L_0u12 3)), (h_0_sorted, eJ cJ 3216 (L_0u12 4)), (h_0_row, eI cI 16 (I_0u8 9)), (h_0_best, eJ cJ 8 (L_0u12 5))]) hCF hK (c_X6_isWon l D cI cJ h_0 h_0_of h_0_kept h_0_column h_0_size h_0_hidden h_0_cell h_0_home h_0_waste h_0_stock h_0_past h_0_start h_0_known h_0_sorted h_0_row h_0_best I_0u8 L_0u12 x16 hc17) (cwV 0 hts (TBL_V mw_638 mw_639 mw_640 mw_5 mw_641) rfl rfl rfl pmX6_isWon ⟨Nat.le_of_ble_eq_true rfl, Nat.le_of_ble_eq_true rfl⟩) hS hA [0, 1, 2, 3, 4, 5, 6, 7, 8, 9, 10, 11, 12, 13, 14, 15] [] rfl rfl rfl rfl (by decide) rfl rfl rfl hl.1 rfl (Nat.le_of_ble_eq_true rfl) ⟨Nat.zero_le _, Nat.zero_le _⟩ dX6_learn_32 rfl (fun H locs hS => ?_)
      refine lv_if_eq (tgt := 42) hx hb dX6_learn_35 (by decide) (fun c_18 => ?_) (fun c_18 => ?_)
      · replace hF := ifp hF c_18
        refine lv_iconst (v := (nI 0)) hx hb dX6_learn_42 (by decide) ?_
        exact B43 I_0u8 L_0u12 v1 (nI 0) _ _ _ hS (lv_sub hl [1, 2] rfl) hF
      · replace hF := ifn hF c_18
        refine lv_iconst (v := (nI 1)) hx hb dX6_learn_38 (by decide) ?_
        refine lv_goto (tgt := 43) hx hb dX6_learn_39 (by decide) ?_
        exact B43 I_0u8 L_0u12 v1 (nI 1) _ _ _ hS (lv_sub hl [1, 2] rfl) hF
    · replace hF := ifp hF c_15
      refine lv_iconst (v := (nI 2)) hx hb dX6_learn_27 (by decide) ?_
      refine lv_goto (tgt := 43) hx hb dX6_learn_28 (by decide) ?_
      exact B43 I_0u8 L_0u12 v1 (nI 2) _ _ _ hS (lv_sub hl [1, 2] rfl) hF
set_option maxHeartbeats 4000000 in
set_option maxRecDepth 100000 in
theorem c_X6_goOn (l : Launch) (D : va_G) (cI cJ : ClassId) (h_0 h_0_of h_0_kept h_0_column h_0_size h_0_hidden h_0_cell h_0_home h_0_waste h_0_stock h_0_past h_0_start h_0_known h_0_sorted h_0_row h_0_best : Nat) (I_0 : Nat → Nat → Int32) (L_0 : Nat → Nat → Int64) (v1 : Int32) (v2 : Int32) (rv : Int32) (r_I_0 : Nat → Nat → Int32) (r_L_0 : Nat → Nat → Int64) (hF : F_X6_goOn I_0 L_0 v1 v2 = some (rv, r_I_0, r_L_0)) : CtI l D [(cI, .int), (cJ, .long)] yX6_goOn wtX6_goOn ({ frames := 5, cells := 0, slots := 0, locals := 119 } : Room) [.ref h_0, .int v1, .int v2] [(h_0, oX6 h_0_of h_0_kept h_0_column h_0_size h_0_hidden h_0_cell h_0_home h_0_waste h_0_stock h_0_past h_0_start h_0_known h_0_sorted h_0_row h_0_best I_0), (h_0_of, eI cI 9 (I_0 1)), (h_0_kept, eI cI 9 (I_0 2)), (h_0_column, eJ cJ 5 (L_0 0)), (h_0_size, eI cI 5 (I_0 3)), (h_0_hidden, eI cI 5 (I_0 4)), (h_0_cell, eI cI 2 (I_0 5)), (h_0_home, eI cI 4 (I_0 6)), (h_0_waste, eI cI 8 (I_0 7)), (h_0_stock, eI cI 8 (I_0 8)), (h_0_past, eJ cJ 1616 (L_0 1)), (h_0_start, eJ cJ 8 (L_0 2)), (h_0_known, eJ cJ 3216 (L_0 3)), (h_0_sorted, eJ cJ 3216 (L_0 4)), (h_0_row, eI cI 16 (I_0 9)), (h_0_best, eJ cJ 8 (L_0 5))] [(h_0, oX6 h_0_of h_0_kept h_0_column h_0_size h_0_hidden h_0_cell h_0_home h_0_waste h_0_stock h_0_past h_0_start h_0_known h_0_sorted h_0_row h_0_best r_I_0), (h_0_of, eI cI 9 (r_I_0 1)), (h_0_kept, eI cI 9 (r_I_0 2)), (h_0_column, eJ cJ 5 (r_L_0 0)), (h_0_size, eI cI 5 (r_I_0 3)), (h_0_hidden, eI cI 5 (r_I_0 4)), (h_0_cell, eI cI 2 (r_I_0 5)), (h_0_home, eI cI 4 (r_I_0 6)), (h_0_waste, eI cI 8 (r_I_0 7)), (h_0_stock, eI cI 8 (r_I_0 8)), (h_0_past, eJ cJ 1616 (r_L_0 1)), (h_0_start, eJ cJ 8 (r_L_0 2)), (h_0_known, eJ cJ 3216 (r_L_0 3)), (h_0_sorted, eJ cJ 3216 (r_L_0 4)), (h_0_row, eI cI 16 (r_I_0 9)), (h_0_best, eJ cJ 8 (r_L_0 5))] rv := by
  refine CtI.of (cc := cX6_goOn) (maxL := 9) (by decide) rfl (Nat.le_of_ble_eq_true rfl) ?_
  intro p e s m args below meth c A H0 Q ls X hS hl kret
  have hCF := X.1
  obtain ⟨⟨hx, hb, hml, hown, hts⟩, hK, hA⟩ := X
  have hl : lv_has ls 9 [(0, .ref h_0), (1, .int v1), (2, .int v2)] := hl
  have q0 := hts (.fieldLink RX6 60 "PatienceryModel" "known" "[J") (List.mem_cons_of_mem _ mw_172)
  have inX6 : ∀ w ∈ u_ws RX6 TX6 32, w ∈ wtX6_goOn := fun w h => List.mem_cons_of_mem _ (inlX6 w h)
  have B75 : ∀ (K14 : (Nat → Nat → Int32) → (Nat → Nat → Int64) → Int32 → Int32 → Int32 → Option (Int32 × (Nat → Nat → Int32) × (Nat → Nat → Int64))) (_ : ∀ (I_0 : Nat → Nat → Int32) (L_0 : Nat → Nat → Int64) (v1 : Int32) (v2 : Int32) (v3 : Int32) (H : Heap) (locs : List Loc) (ls : Array Slot), HS D A H0 [(h_0, oX6 h_0_of h_0_kept h_0_column h_0_size h_0_hidden h_0_cell h_0_home h_0_waste h_0_stock h_0_past h_0_start h_0_known h_0_sorted h_0_row h_0_best I_0), (h_0_of, eI cI 9 (I_0 1)), (h_0_kept, eI cI 9 (I_0 2)), (h_0_column, eJ cJ 5 (L_0 0)), (h_0_size, eI cI 5 (I_0 3)), (h_0_hidden, eI cI 5 (I_0 4)), (h_0_cell, eI cI 2 (I_0 5)), (h_0_home, eI cI 4 (I_0 6)), (h_0_waste, eI cI 8 (I_0 7)), (h_0_stock, eI cI 8 (I_0 8)), (h_0_past, eJ cJ 1616 (L_0 1)), (h_0_start, eJ cJ 8 (L_0 2)), (h_0_known, eJ cJ 3216 (L_0 3)), (h_0_sorted, eJ cJ 3216 (L_0 4)), (h_0_row, eI cI 16 (I_0 9)), (h_0_best, eJ cJ 8 (L_0 5))] H locs → lv_has ls 9 [(0, .ref h_0), (1, .int v1), (2, .int v2), (3, .int v3)] → K14 I_0 L_0 v1 v2 v3 = some (rv, r_I_0, r_L_0) → W p l e ({ frames := 5, cells := 0, slots := 0, locals := 119 } : Room) s m args below meth c H locs 0 0 Q (F0 m 14 ls [])) (I_0 : Nat → Nat → Int32) (L_0 : Nat → Nat → Int64) (v1 : Int32) (v2 : Int32) (v3 : Int32) (v4 : Int32) (v5 : Int32) (v6 : Int32) (s0 : Int32) (H : Heap) (locs : List Loc) (ls : Array Slot), HS D A H0 [(h_0, oX6 h_0_of h_0_kept h_0_column h_0_size h_0_hidden h_0_cell h_0_home h_0_waste h_0_stock h_0_past h_0_start h_0_known h_0_sorted h_0_row h_0_best I_0), (h_0_of, eI cI 9 (I_0 1)), (h_0_kept, eI cI 9 (I_0 2)), (h_0_column, eJ cJ 5 (L_0 0)), (h_0_size, eI cI 5 (I_0 3)), (h_0_hidden, eI cI 5 (I_0 4)), (h_0_cell, eI cI 2 (I_0 5)), (h_0_home, eI cI 4 (I_0 6)), (h_0_waste, eI cI 8 (I_0 7)), (h_0_stock, eI cI 8 (I_0 8)), (h_0_past, eJ cJ 1616 (L_0 1)), (h_0_start, eJ cJ 8 (L_0 2)), (h_0_known, eJ cJ 3216 (L_0 3)), (h_0_sorted, eJ cJ 3216 (L_0 4)), (h_0_row, eI cI 16 (I_0 9)), (h_0_best, eJ cJ 8 (L_0 5))] H locs → lv_has ls 9 [(0, .ref h_0), (1, .int v1), (2, .int v2), (3, .int v3), (4, .int v4), (5, .int v5), (6, .int v6)] → F_X6_goOn_b75  K14 I_0 L_0 v1 v2 v3 v4 v5 v6 s0 = some (rv, r_I_0, r_L_0) → W p l e ({ frames := 5, cells := 0, slots := 0, locals := 119 } : Room) s m args below meth c H locs 0 0 Q (F0 m 75 ls [.int s0]) := by
    intro K14 hK14 I_0 L_0 v1 v2 v3 v4 v5 v6 s0 H locs ls hS hl hF
    unfold F_X6_goOn_b75 at hF
    refine lv_istore (lv' := [(7, .int s0), (0, .ref h_0), (1, .int v1), (2, .int v2), (3, .int v3), (4, .int v4), (5, .int v5), (6, .int v6)]) hx hb dX6_goOn_75 hl (by decide) rfl (fun ls hl => ?_)
    refine lv_iload hx hb dX6_goOn_77 (lv_at hl 0 rfl) ?_
    refine lv_if_eq (tgt := 117) hx hb dX6_goOn_79 (by decide) (fun c_1 => ?_) (fun c_1 => ?_)
    · replace hF := ifp hF c_1
      refine lv_iinc (v := v3 + (nI 1)) (lv' := [(3, .int (v3 + (nI 1))), (7, .int s0), (0, .ref h_0), (1, .int v1), (2, .int v2), (4, .int v4), (5, .int v5), (6, .int v6)]) hx hb dX6_goOn_117 hl (k := 4) rfl rfl (by decide) rfl (fun ls hl => ?_)
      refine lv_goto (tgt := 14) hx hb dX6_goOn_120 (by decide) ?_
      exact hK14 I_0 L_0 v1 v2 (v3 + (nI 1)) _ _ _ hS (lv_sub hl [2, 3, 4, 0] rfl) hF
    · replace hF := ifn hF c_1
      refine lv_aload_n hx hb dX6_goOn_82 rfl (lv_at hl 1 rfl) ?_
      refine lv_iload hx hb dX6_goOn_83 (lv_at hl 5 rfl) ?_
      refine lv_iload hx hb dX6_goOn_85 (lv_at hl 6 rfl) ?_
      refine lv_iload hx hb dX6_goOn_87 (lv_at hl 7 rfl) ?_
      replace hF := cal1_e hF
      obtain ⟨x2, hc3, hF⟩ := hF
      refine kV_i (As := [.int v4, .int v5, .int v6]) (rest := []) (wr := []) (w2 := [(h_0, oX6 h_0_of h_0_kept h_0_column h_0_size h_0_hidden h_0_cell h_0_home h_0_waste h_0_stock h_0_past h_0_start h_0_known h_0_sorted h_0_row h_0_best I_0), (h_0_of, eI cI 9 (I_0 1)), (h_0_kept, eI cI 9 (I_0 2)), (h_0_column, eJ cJ 5 (L_0 0)), (h_0_size, eI cI 5 (I_0 3)), (h_0_hidden, eI cI 5 (I_0 4)), (h_0_cell, eI cI 2 (I_0 5)), (h_0_home, eI cI 4 (I_0 6)), (h_0_waste, eI cI 8 (I_0 7)), (h_0_stock, eI cI 8 (I_0 8)), (h_0_past, eJ cJ 1616 (L_0 1)), (h_0_start, eJ cJ 8 (L_0 2)), (h_0_known, eJ cJ 3216 (L_0 3)), (h_0_sorted, eJ cJ 3216 (L_0 4)), (h_0_row, eI cI 16 (I_0 9)), (h_0_best, eJ cJ 8 (L_0 5))]) hCF hK (c_X6_isMove l D cI cJ h_0 h_0_of h_0_kept h_0_column h_0_size h_0_hidden h_0_cell h_0_home h_0_waste h_0_stock h_0_past h_0_start h_0_known h_0_sorted h_0_row h_0_best I_0 L_0 v4 v5 v6 x2 hc3) (cwV 3 hts (TBL_V mw_453 mw_454 mw_455 mw_5 mw_456) rfl rfl rfl pmX6_isMove ⟨Nat.le_of_ble_eq_true rfl, Nat.le_of_ble_eq_true rfl⟩) hS hA [0, 1, 2, 3, 4, 5, 6, 7, 8, 9, 10, 11, 12, 13, 14, 15] [] rfl rfl rfl rfl (by decide) rfl rfl rfl hl.1 rfl (Nat.le_of_ble_eq_true rfl) ⟨Nat.zero_le _, Nat.zero_le _⟩ dX6_goOn_89 rfl (fun H locs hS => ?_)
      refine lv_if_eq (tgt := 117) hx hb dX6_goOn_92 (by decide) (fun c_4 => ?_) (fun c_4 => ?_)
      · replace hF := ifp hF c_4
        refine lv_iinc (v := v3 + (nI 1)) (lv' := [(3, .int (v3 + (nI 1))), (7, .int s0), (0, .ref h_0), (1, .int v1), (2, .int v2), (4, .int v4), (5, .int v5), (6, .int v6)]) hx hb dX6_goOn_117 hl (k := 4) rfl rfl (by decide) rfl (fun ls hl => ?_)
        refine lv_goto (tgt := 14) hx hb dX6_goOn_120 (by decide) ?_
        exact hK14 I_0 L_0 v1 v2 (v3 + (nI 1)) _ _ _ hS (lv_sub hl [2, 3, 4, 0] rfl) hF
      · replace hF := ifn hF c_4
        refine lv_aload_n hx hb dX6_goOn_95 rfl (lv_at hl 1 rfl) ?_
        refine lv_iload_n hx hb dX6_goOn_96 rfl (lv_at hl 2 rfl) ?_
        refine lv_iload hx hb dX6_goOn_97 (lv_at hl 5 rfl) ?_
        refine lv_iload hx hb dX6_goOn_99 (lv_at hl 6 rfl) ?_
        refine lv_iload hx hb dX6_goOn_101 (lv_at hl 7 rfl) ?_
        refine lv_iload_n hx hb dX6_goOn_103 rfl (lv_at hl 3 rfl) ?_
        replace hF := cal3_e hF
        obtain ⟨x5, I_0u6, L_0u7, hc8, hF⟩ := hF
        refine kV_i (As := [.int v1, .int v4, .int v5, .int v6, .int v2]) (rest := []) (wr := []) (w2 := [(h_0, oX6 h_0_of h_0_kept h_0_column h_0_size h_0_hidden h_0_cell h_0_home h_0_waste h_0_stock h_0_past h_0_start h_0_known h_0_sorted h_0_row h_0_best I_0u6), (h_0_of, eI cI 9 (I_0u6 1)), (h_0_kept, eI cI 9 (I_0u6 2)), (h_0_column, eJ cJ 5 (L_0u7 0)), (h_0_size, eI cI 5 (I_0u6 3)), (h_0_hidden, eI cI 5 (I_0u6 4)), (h_0_cell, eI cI 2 (I_0u6 5)), (h_0_home, eI cI 4 (I_0u6 6)), (h_0_waste, eI cI 8 (I_0u6 7)), (h_0_stock, eI cI 8 (I_0u6 8)), (h_0_past, eJ cJ 1616 (L_0u7 1)), (h_0_start, eJ cJ 8 (L_0u7 2)), (h_0_known, eJ cJ 3216 (L_0u7 3)), (h_0_sorted, eJ cJ 3216 (L_0u7 4)), (h_0_row, eI cI 16 (I_0u6 9)), (h_0_best, eJ cJ 8 (L_0u7 5))]) hCF hK (c_X6_learn l D cI cJ h_0 h_0_of h_0_kept h_0_column h_0_size h_0_hidden h_0_cell h_0_home h_0_waste h_0_stock h_0_past h_0_start h_0_known h_0_sorted h_0_row h_0_best I_0 L_0 v1 v4 v5 v6 v2 x5 I_0u6 L_0u7 hc8) (cwV 5 hts (TBL_V mw_710 mw_711 mw_712 mw_5 mw_713) rfl rfl rfl pmX6_learn ⟨Nat.le_of_ble_eq_true rfl, Nat.le_of_ble_eq_true rfl⟩) hS hA [0, 1, 2, 3, 4, 5, 6, 7, 8, 9, 10, 11, 12, 13, 14, 15] [] rfl rfl rfl rfl (by decide) rfl rfl rfl hl.1 rfl (Nat.le_of_ble_eq_true rfl) ⟨Nat.zero_le _, Nat.zero_le _⟩ dX6_goOn_104 rfl (fun H locs hS => ?_)
        refine lv_istore (lv' := [(8, .int x5), (7, .int s0), (0, .ref h_0), (1, .int v1), (2, .int v2), (3, .int v3), (4, .int v4), (5, .int v5), (6, .int v6)]) hx hb dX6_goOn_107 hl (by decide) rfl (fun ls hl => ?_)
        refine lv_iload hx hb dX6_goOn_109 (lv_at hl 0 rfl) ?_
        refine lv_if_le (tgt := 117) hx hb dX6_goOn_111 (by decide) (fun c_9 => ?_) (fun c_9 => ?_)
        · replace hF := ifp hF c_9
          refine lv_iinc (v := v3 + (nI 1)) (lv' := [(3, .int (v3 + (nI 1))), (8, .int x5), (7, .int s0), (0, .ref h_0), (1, .int v1), (2, .int v2), (4, .int v4), (5, .int v5), (6, .int v6)]) hx hb dX6_goOn_117 hl (k := 5) rfl rfl (by decide) rfl (fun ls hl => ?_)
          refine lv_goto (tgt := 14) hx hb dX6_goOn_120 (by decide) ?_
          exact hK14 I_0u6 L_0u7 v1 v2 (v3 + (nI 1)) _ _ _ hS (lv_sub hl [3, 4, 5, 0] rfl) hF
        · replace hF := ifn hF c_9
          refine lv_iload hx hb dX6_goOn_114 (lv_at hl 0 rfl) ?_
          have e9_0 := Option.some.inj hF
          obtain ⟨f9_0, e9_1⟩ := Prod.mk.inj e9_0
          obtain ⟨f9_1, e9_2⟩ := Prod.mk.inj e9_1
          subst f9_0
          subst f9_1
          subst e9_2
          exact kret _ _ _ _ hS dX6_goOn_116
  have S14 : ∀ (K14 : (Nat → Nat → Int32) → (Nat → Nat → Int64) → Int32 → Int32 → Int32 → Option (Int32 × (Nat → Nat → Int32) × (Nat → Nat → Int64))) (_ : ∀ (I_0 : Nat → Nat → Int32) (L_0 : Nat → Nat → Int64) (v1 : Int32) (v2 : Int32) (v3 : Int32) (H : Heap) (locs : List Loc) (ls : Array Slot), HS D A H0 [(h_0, oX6 h_0_of h_0_kept h_0_column h_0_size h_0_hidden h_0_cell h_0_home h_0_waste h_0_stock h_0_past h_0_start h_0_known h_0_sorted h_0_row h_0_best I_0), (h_0_of, eI cI 9 (I_0 1)), (h_0_kept, eI cI 9 (I_0 2)), (h_0_column, eJ cJ 5 (L_0 0)), (h_0_size, eI cI 5 (I_0 3)), (h_0_hidden, eI cI 5 (I_0 4)), (h_0_cell, eI cI 2 (I_0 5)), (h_0_home, eI cI 4 (I_0 6)), (h_0_waste, eI cI 8 (I_0 7)), (h_0_stock, eI cI 8 (I_0 8)), (h_0_past, eJ cJ 1616 (L_0 1)), (h_0_start, eJ cJ 8 (L_0 2)), (h_0_known, eJ cJ 3216 (L_0 3)), (h_0_sorted, eJ cJ 3216 (L_0 4)), (h_0_row, eI cI 16 (I_0 9)), (h_0_best, eJ cJ 8 (L_0 5))] H locs → lv_has ls 9 [(0, .ref h_0), (1, .int v1), (2, .int v2), (3, .int v3)] → K14 I_0 L_0 v1 v2 v3 = some (rv, r_I_0, r_L_0) → W p l e ({ frames := 5, cells := 0, slots := 0, locals := 119 } : Room) s m args below meth c H locs 0 0 Q (F0 m 14 ls [])) (I_0 : Nat → Nat → Int32) (L_0 : Nat → Nat → Int64) (v1 : Int32) (v2 : Int32) (v3 : Int32) (H : Heap) (locs : List Loc) (ls : Array Slot), HS D A H0 [(h_0, oX6 h_0_of h_0_kept h_0_column h_0_size h_0_hidden h_0_cell h_0_home h_0_waste h_0_stock h_0_past h_0_start h_0_known h_0_sorted h_0_row h_0_best I_0), (h_0_of, eI cI 9 (I_0 1)), (h_0_kept, eI cI 9 (I_0 2)), (h_0_column, eJ cJ 5 (L_0 0)), (h_0_size, eI cI 5 (I_0 3)), (h_0_hidden, eI cI 5 (I_0 4)), (h_0_cell, eI cI 2 (I_0 5)), (h_0_home, eI cI 4 (I_0 6)), (h_0_waste, eI cI 8 (I_0 7)), (h_0_stock, eI cI 8 (I_0 8)), (h_0_past, eJ cJ 1616 (L_0 1)), (h_0_start, eJ cJ 8 (L_0 2)), (h_0_known, eJ cJ 3216 (L_0 3)), (h_0_sorted, eJ cJ 3216 (L_0 4)), (h_0_row, eI cI 16 (I_0 9)), (h_0_best, eJ cJ 8 (L_0 5))] H locs → lv_has ls 9 [(0, .ref h_0), (1, .int v1), (2, .int v2), (3, .int v3)] → F_X6_goOn_s14  K14 I_0 L_0 v1 v2 v3 = some (rv, r_I_0, r_L_0) → W p l e ({ frames := 5, cells := 0, slots := 0, locals := 119 } : Room) s m args below meth c H locs 0 0 Q (F0 m 14 ls []) := by
    intro K14 hK14 I_0 L_0 v1 v2 v3 H locs ls hS hl hF
    unfold F_X6_goOn_s14 at hF
    refine lv_iload_n hx hb dX6_goOn_14 rfl (lv_at hl 3 rfl) ?_
    refine lv_sipush (v := (nI 1440)) hx hb dX6_goOn_15 (by decide) ?_
    refine lv_icmp_ge (tgt := 123) hx hb dX6_goOn_18 (by decide) (fun c_10 => ?_) (fun c_10 => ?_)
    · replace hF := ifp hF c_10
      refine lv_iconst (v := (nI 0)) hx hb dX6_goOn_123 (by decide) ?_
      have e9_0 := Option.some.inj hF
      obtain ⟨f9_0, e9_1⟩ := Prod.mk.inj e9_0
      obtain ⟨f9_1, e9_2⟩ := Prod.mk.inj e9_1
      subst f9_0
      subst f9_1
      subst e9_2
      exact kret _ _ _ _ hS dX6_goOn_124
    · replace hF := ifn hF c_10
      refine lv_iload_n hx hb dX6_goOn_21 rfl (lv_at hl 3 rfl) ?_
      refine lv_sipush (v := (nI 144)) hx hb dX6_goOn_22 (by decide) ?_
      replace hF := nz_e hF
      obtain ⟨hne11, hF⟩ := hF
      refine lv_idiv hx hb dX6_goOn_25 hne11 ?_
      refine lv_istore (lv' := [(4, .int (v3 / (nI 144))), (0, .ref h_0), (1, .int v1), (2, .int v2), (3, .int v3)]) hx hb dX6_goOn_26 hl (by decide) rfl (fun ls hl => ?_)
      refine lv_iload_n hx hb dX6_goOn_28 rfl (lv_at hl 4 rfl) ?_
      refine lv_bipush (v := (nI 16)) hx hb dX6_goOn_29 (by decide) ?_
      replace hF := nz_e hF
      obtain ⟨hne12, hF⟩ := hF
      refine lv_idiv hx hb dX6_goOn_31 hne12 ?_
      refine lv_bipush (v := (nI 9)) hx hb dX6_goOn_32 (by decide) ?_
      replace hF := nz_e hF
      obtain ⟨hne13, hF⟩ := hF
      refine lv_irem hx hb dX6_goOn_34 hne13 ?_
      refine lv_istore (lv' := [(5, .int ((v3 / (nI 16)) - (v3 / (nI 16)) / (nI 9) * (nI 9))), (4, .int (v3 / (nI 144))), (0, .ref h_0), (1, .int v1), (2, .int v2), (3, .int v3)]) hx hb dX6_goOn_35 hl (by decide) rfl (fun ls hl => ?_)
      refine lv_iload_n hx hb dX6_goOn_37 rfl (lv_at hl 5 rfl) ?_
      refine lv_bipush (v := (nI 16)) hx hb dX6_goOn_38 (by decide) ?_
      replace hF := nz_e hF
      obtain ⟨hne14, hF⟩ := hF
      refine lv_irem hx hb dX6_goOn_40 hne14 ?_
      refine lv_iconst (v := (nI 1)) hx hb dX6_goOn_41 (by decide) ?_
      refine lv_iadd hx hb dX6_goOn_42 ?_
      refine lv_istore (lv' := [(6, .int ((v3 - v3 / (nI 16) * (nI 16)) + (nI 1))), (5, .int ((v3 / (nI 16)) - (v3 / (nI 16)) / (nI 9) * (nI 9))), (4, .int (v3 / (nI 144))), (0, .ref h_0), (1, .int v1), (2, .int v2), (3, .int v3)]) hx hb dX6_goOn_43 hl (by decide) rfl (fun ls hl => ?_)
      refine lv_iload hx hb dX6_goOn_45 (lv_at hl 2 rfl) ?_
      refine lv_bipush (v := (nI 8)) hx hb dX6_goOn_47 (by decide) ?_
      refine lv_icmp_eq (tgt := 74) hx hb dX6_goOn_49 (by decide) (fun c_15 => ?_) (fun c_15 => ?_)
      · replace hF := ifp hF c_15
        refine lv_iconst (v := (nI 0)) hx hb dX6_goOn_74 (by decide) ?_
        exact B75 K14 hK14 I_0 L_0 v1 v2 v3 (v3 / (nI 144)) ((v3 / (nI 16)) - (v3 / (nI 16)) / (nI 9) * (nI 9)) ((v3 - v3 / (nI 16) * (nI 16)) + (nI 1)) (nI 0) _ _ _ hS (lv_sub hl [3, 4, 5, 6, 2, 1, 0] rfl) hF
      · replace hF := ifn hF c_15
        refine lv_iload hx hb dX6_goOn_52 (lv_at hl 0 rfl) ?_
        refine lv_iconst (v := (nI 1)) hx hb dX6_goOn_54 (by decide) ?_
        refine lv_icmp_eq (tgt := 70) hx hb dX6_goOn_55 (by decide) (fun c_16 => ?_) (fun c_16 => ?_)
        · replace hF := ifp hF c_16
          refine lv_iconst (v := (nI 1)) hx hb dX6_goOn_70 (by decide) ?_
          refine lv_goto (tgt := 75) hx hb dX6_goOn_71 (by decide) ?_
          exact B75 K14 hK14 I_0 L_0 v1 v2 v3 (v3 / (nI 144)) ((v3 / (nI 16)) - (v3 / (nI 16)) / (nI 9) * (nI 9)) ((v3 - v3 / (nI 16) * (nI 16)) + (nI 1)) (nI 1) _ _ _ hS (lv_sub hl [3, 4, 5, 6, 2, 1, 0] rfl) hF
        · replace hF := ifn hF c_16
          refine lv_iload hx hb dX6_goOn_58 (lv_at hl 2 rfl) ?_
          refine lv_iconst (v := (nI 5)) hx hb dX6_goOn_60 (by decide) ?_
          refine lv_icmp_ge (tgt := 74) hx hb dX6_goOn_61 (by decide) (fun c_17 => ?_) (fun c_17 => ?_)
          · replace hF := ifp hF c_17
            refine lv_iconst (v := (nI 0)) hx hb dX6_goOn_74 (by decide) ?_
            exact B75 K14 hK14 I_0 L_0 v1 v2 v3 (v3 / (nI 144)) ((v3 / (nI 16)) - (v3 / (nI 16)) / (nI 9) * (nI 9)) ((v3 - v3 / (nI 16) * (nI 16)) + (nI 1)) (nI 0) _ _ _ hS (lv_sub hl [3, 4, 5, 6, 2, 1, 0] rfl) hF
          · replace hF := ifn hF c_17
            refine lv_iload hx hb dX6_goOn_64 (lv_at hl 1 rfl) ?_
            refine lv_iconst (v := (nI 5)) hx hb dX6_goOn_66 (by decide) ?_
            refine lv_icmp_ge (tgt := 74) hx hb dX6_goOn_67 (by decide) (fun c_18 => ?_) (fun c_18 => ?_)
            · replace hF := ifp hF c_18
              refine lv_iconst (v := (nI 0)) hx hb dX6_goOn_74 (by decide) ?_
              exact B75 K14 hK14 I_0 L_0 v1 v2 v3 (v3 / (nI 144)) ((v3 / (nI 16)) - (v3 / (nI 16)) / (nI 9) * (nI 9)) ((v3 - v3 / (nI 16) * (nI 16)) + (nI 1)) (nI 0) _ _ _ hS (lv_sub hl [3, 4, 5, 6, 2, 1, 0] rfl) hF
            · replace hF := ifn hF c_18
              refine lv_iconst (v := (nI 1)) hx hb dX6_goOn_70 (by decide) ?_
              refine lv_goto (tgt := 75) hx hb dX6_goOn_71 (by decide) ?_
              exact B75 K14 hK14 I_0 L_0 v1 v2 v3 (v3 / (nI 144)) ((v3 / (nI 16)) - (v3 / (nI 16)) / (nI 9) * (nI 9)) ((v3 - v3 / (nI 16) * (nI 16)) + (nI 1)) (nI 1) _ _ _ hS (lv_sub hl [3, 4, 5, 6, 2, 1, 0] rfl) hF
  have L14 : ∀  (n : Nat) (I_0 : Nat → Nat → Int32) (L_0 : Nat → Nat → Int64) (v1 : Int32) (v2 : Int32) (v3 : Int32) (H : Heap) (locs : List Loc) (ls : Array Slot), HS D A H0 [(h_0, oX6 h_0_of h_0_kept h_0_column h_0_size h_0_hidden h_0_cell h_0_home h_0_waste h_0_stock h_0_past h_0_start h_0_known h_0_sorted h_0_row h_0_best I_0), (h_0_of, eI cI 9 (I_0 1)), (h_0_kept, eI cI 9 (I_0 2)), (h_0_column, eJ cJ 5 (L_0 0)), (h_0_size, eI cI 5 (I_0 3)), (h_0_hidden, eI cI 5 (I_0 4)), (h_0_cell, eI cI 2 (I_0 5)), (h_0_home, eI cI 4 (I_0 6)), (h_0_waste, eI cI 8 (I_0 7)), (h_0_stock, eI cI 8 (I_0 8)), (h_0_past, eJ cJ 1616 (L_0 1)), (h_0_start, eJ cJ 8 (L_0 2)), (h_0_known, eJ cJ 3216 (L_0 3)), (h_0_sorted, eJ cJ 3216 (L_0 4)), (h_0_row, eI cI 16 (I_0 9)), (h_0_best, eJ cJ 8 (L_0 5))] H locs → lv_has ls 9 [(0, .ref h_0), (1, .int v1), (2, .int v2), (3, .int v3)] → F_X6_goOn_L14   n I_0 L_0 v1 v2 v3 = some (rv, r_I_0, r_L_0) → W p l e ({ frames := 5, cells := 0, slots := 0, locals := 119 } : Room) s m args below meth c H locs 0 0 Q (F0 m 14 ls []) := by
    intro  n
    induction n with
    | zero => intro I_0 L_0 v1 v2 v3 H locs ls hS hl hF; exact nomatch (show (none : Option (Int32 × (Nat → Nat → Int32) × (Nat → Nat → Int64))) = some _ from hF)
    | succ n ih => intro I_0 L_0 v1 v2 v3 H locs ls hS hl hF; exact S14  _ ih I_0 L_0 v1 v2 v3 H locs ls hS hl hF
  unfold F_X6_goOn at hF
  refine lv_aload_n hx hb dX6_goOn_0 rfl (lv_at hl 0 rfl) ?_
  refine lv_aload_n hx hb dX6_goOn_1 rfl (lv_at hl 0 rfl) ?_
  refine r_get hx hb hts inX6 hown hK hS 0 27 rfl rfl (by decide) q0 rfl dX6_goOn_2 ?_
  refine lv_bipush (v := (nI 8)) hx hb dX6_goOn_5 (by decide) ?_
  refine lv_iload_n hx hb dX6_goOn_7 rfl (lv_at hl 1 rfl) ?_
  refine lv_imul hx hb dX6_goOn_8 ?_
  replace hF := cal2_e hF
  obtain ⟨I_0u19, L_0u20, hc21, hF⟩ := hF
  refine kV_v (As := [.ref h_0_known, .int ((nI 8) * v1)]) (rest := []) (wr := []) (w2 := [(h_0, oX6 h_0_of h_0_kept h_0_column h_0_size h_0_hidden h_0_cell h_0_home h_0_waste h_0_stock h_0_past h_0_start h_0_known h_0_sorted h_0_row h_0_best I_0u19), (h_0_of, eI cI 9 (I_0u19 1)), (h_0_kept, eI cI 9 (I_0u19 2)), (h_0_column, eJ cJ 5 (L_0u20 0)), (h_0_size, eI cI 5 (I_0u19 3)), (h_0_hidden, eI cI 5 (I_0u19 4)), (h_0_cell, eI cI 2 (I_0u19 5)), (h_0_home, eI cI 4 (I_0u19 6)), (h_0_waste, eI cI 8 (I_0u19 7)), (h_0_stock, eI cI 8 (I_0u19 8)), (h_0_past, eJ cJ 1616 (L_0u20 1)), (h_0_start, eJ cJ 8 (L_0u20 2)), (h_0_known, eJ cJ 3216 (L_0u20 3)), (h_0_sorted, eJ cJ 3216 (L_0u20 4)), (h_0_row, eI cI 16 (I_0u19 9)), (h_0_best, eJ cJ 8 (L_0u20 5))]) hCF hK (c_X6_load_known l D cI cJ h_0 h_0_of h_0_kept h_0_column h_0_size h_0_hidden h_0_cell h_0_home h_0_waste h_0_stock h_0_past h_0_start h_0_known h_0_sorted h_0_row h_0_best I_0 L_0 ((nI 8) * v1) I_0u19 L_0u20 hc21) (cwV 2 hts (TBL_V mw_331 mw_332 mw_333 mw_5 mw_334) rfl rfl rfl pmX6_load ⟨Nat.le_of_ble_eq_true rfl, Nat.le_of_ble_eq_true rfl⟩) hS hA [0, 1, 2, 3, 4, 5, 6, 7, 8, 9, 10, 11, 12, 13, 14, 15] [] rfl rfl rfl rfl (by decide) rfl rfl rfl hl.1 rfl (Nat.le_of_ble_eq_true rfl) ⟨Nat.zero_le _, Nat.zero_le _⟩ dX6_goOn_9 rfl (fun H locs hS => ?_)
  refine lv_iconst (v := (nI 0)) hx hb dX6_goOn_12 (by decide) ?_
  refine lv_istore_n (lv' := [(3, .int (nI 0)), (0, .ref h_0), (1, .int v1), (2, .int v2)]) hx hb dX6_goOn_13 rfl hl (by decide) rfl (fun ls hl => ?_)
  exact L14 FU I_0u19 L_0u20 v1 v2 (nI 0) _ _ _ hS (lv_sub hl [1, 2, 3, 0] rfl) hF
set_option maxHeartbeats 4000000 in
set_option maxRecDepth 100000 in
theorem c_X6_look (l : Launch) (D : va_G) (cI cJ : ClassId) (h_0 h_0_of h_0_kept h_0_column h_0_size h_0_hidden h_0_cell h_0_home h_0_waste h_0_stock h_0_past h_0_start h_0_known h_0_sorted h_0_row h_0_best : Nat) (I_0 : Nat → Nat → Int32) (L_0 : Nat → Nat → Int64) (v1 : Int32) (rv : Int32) (r_I_0 : Nat → Nat → Int32) (r_L_0 : Nat → Nat → Int64) (hF : F_X6_look I_0 L_0 v1 = some (rv, r_I_0, r_L_0)) : CtI l D [(cI, .int), (cJ, .long)] yX6_look wtX6_look ({ frames := 6, cells := 0, slots := 0, locals := 147 } : Room) [.ref h_0, .int v1] [(h_0, oX6 h_0_of h_0_kept h_0_column h_0_size h_0_hidden h_0_cell h_0_home h_0_waste h_0_stock h_0_past h_0_start h_0_known h_0_sorted h_0_row h_0_best I_0), (h_0_of, eI cI 9 (I_0 1)), (h_0_kept, eI cI 9 (I_0 2)), (h_0_column, eJ cJ 5 (L_0 0)), (h_0_size, eI cI 5 (I_0 3)), (h_0_hidden, eI cI 5 (I_0 4)), (h_0_cell, eI cI 2 (I_0 5)), (h_0_home, eI cI 4 (I_0 6)), (h_0_waste, eI cI 8 (I_0 7)), (h_0_stock, eI cI 8 (I_0 8)), (h_0_past, eJ cJ 1616 (L_0 1)), (h_0_start, eJ cJ 8 (L_0 2)), (h_0_known, eJ cJ 3216 (L_0 3)), (h_0_sorted, eJ cJ 3216 (L_0 4)), (h_0_row, eI cI 16 (I_0 9)), (h_0_best, eJ cJ 8 (L_0 5))] [(h_0, oX6 h_0_of h_0_kept h_0_column h_0_size h_0_hidden h_0_cell h_0_home h_0_waste h_0_stock h_0_past h_0_start h_0_known h_0_sorted h_0_row h_0_best r_I_0), (h_0_of, eI cI 9 (r_I_0 1)), (h_0_kept, eI cI 9 (r_I_0 2)), (h_0_column, eJ cJ 5 (r_L_0 0)), (h_0_size, eI cI 5 (r_I_0 3)), (h_0_hidden, eI cI 5 (r_I_0 4)), (h_0_cell, eI cI 2 (r_I_0 5)), (h_0_home, eI cI 4 (r_I_0 6)), (h_0_waste, eI cI 8 (r_I_0 7)), (h_0_stock, eI cI 8 (r_I_0 8)), (h_0_past, eJ cJ 1616 (r_L_0 1)), (h_0_start, eJ cJ 8 (r_L_0 2)), (h_0_known, eJ cJ 3216 (r_L_0 3)), (h_0_sorted, eJ cJ 3216 (r_L_0 4)), (h_0_row, eI cI 16 (r_I_0 9)), (h_0_best, eJ cJ 8 (r_L_0 5))] rv := by
  refine CtI.of (cc := cX6_look) (maxL := 7) (by decide) rfl (Nat.le_of_ble_eq_true rfl) ?_
  intro p e s m args below meth c A H0 Q ls X hS hl kret
  have hCF := X.1
  obtain ⟨⟨hx, hb, hml, hown, hts⟩, hK, hA⟩ := X
  have hl : lv_has ls 7 [(0, .ref h_0), (1, .int v1)] := hl
  have q0 := hts (.fieldLink RX6 60 "PatienceryModel" "known" "[J") (List.mem_cons_of_mem _ mw_172)
  have inX6 : ∀ w ∈ u_ws RX6 TX6 32, w ∈ wtX6_look := fun w h => List.mem_cons_of_mem _ (inlX6 w h)
  have q2 := hts (.fieldLink RX6 228 "PatienceryModel" "many" "I") (List.mem_cons_of_mem _ mw_697)
  have q3 := hts (.fieldLink RX6 63 "PatienceryModel" "sorted" "[J") (List.mem_cons_of_mem _ mw_173)
  have B118 : ∀ (I_0 : Nat → Nat → Int32) (L_0 : Nat → Nat → Int64) (v2 : Int32) (H : Heap) (locs : List Loc) (ls : Array Slot), HS D A H0 [(h_0, oX6 h_0_of h_0_kept h_0_column h_0_size h_0_hidden h_0_cell h_0_home h_0_waste h_0_stock h_0_past h_0_start h_0_known h_0_sorted h_0_row h_0_best I_0), (h_0_of, eI cI 9 (I_0 1)), (h_0_kept, eI cI 9 (I_0 2)), (h_0_column, eJ cJ 5 (L_0 0)), (h_0_size, eI cI 5 (I_0 3)), (h_0_hidden, eI cI 5 (I_0 4)), (h_0_cell, eI cI 2 (I_0 5)), (h_0_home, eI cI 4 (I_0 6)), (h_0_waste, eI cI 8 (I_0 7)), (h_0_stock, eI cI 8 (I_0 8)), (h_0_past, eJ cJ 1616 (L_0 1)), (h_0_start, eJ cJ 8 (L_0 2)), (h_0_known, eJ cJ 3216 (L_0 3)), (h_0_sorted, eJ cJ 3216 (L_0 4)), (h_0_row, eI cI 16 (I_0 9)), (h_0_best, eJ cJ 8 (L_0 5))] H locs → lv_has ls 7 [(0, .ref h_0), (2, .int v2)] → F_X6_look_b118   I_0 L_0 v2 = some (rv, r_I_0, r_L_0) → W p l e ({ frames := 6, cells := 0, slots := 0, locals := 147 } : Room) s m args below meth c H locs 0 0 Q (F0 m 118 ls []) := by
    intro I_0 L_0 v2 H locs ls hS hl hF
    unfold F_X6_look_b118 at hF
    refine lv_aload_n hx hb dX6_look_118 rfl (lv_at hl 0 rfl) ?_
    refine lv_aload_n hx hb dX6_look_119 rfl (lv_at hl 0 rfl) ?_
    refine r_get hx hb hts inX6 hown hK hS 0 27 rfl rfl (by decide) q0 rfl dX6_look_120 ?_
    refine lv_iconst (v := (nI 0)) hx hb dX6_look_123 (by decide) ?_
    replace hF := cal2_e hF
    obtain ⟨I_0u1, L_0u2, hc3, hF⟩ := hF
    refine kV_v (As := [.ref h_0_known, .int (nI 0)]) (rest := []) (wr := []) (w2 := [(h_0, oX6 h_0_of h_0_kept h_0_column h_0_size h_0_hidden h_0_cell h_0_home h_0_waste h_0_stock h_0_past h_0_start h_0_known h_0_sorted h_0_row h_0_best I_0u1), (h_0_of, eI cI 9 (I_0u1 1)), (h_0_kept, eI cI 9 (I_0u1 2)), (h_0_column, eJ cJ 5 (L_0u2 0)), (h_0_size, eI cI 5 (I_0u1 3)), (h_0_hidden, eI cI 5 (I_0u1 4)), (h_0_cell, eI cI 2 (I_0u1 5)), (h_0_home, eI cI 4 (I_0u1 6)), (h_0_waste, eI cI 8 (I_0u1 7)), (h_0_stock, eI cI 8 (I_0u1 8)), (h_0_past, eJ cJ 1616 (L_0u2 1)), (h_0_start, eJ cJ 8 (L_0u2 2)), (h_0_known, eJ cJ 3216 (L_0u2 3)), (h_0_sorted, eJ cJ 3216 (L_0u2 4)), (h_0_row, eI cI 16 (I_0u1 9)), (h_0_best, eJ cJ 8 (L_0u2 5))]) hCF hK (c_X6_load_known l D cI cJ h_0 h_0_of h_0_kept h_0_column h_0_size h_0_hidden h_0_cell h_0_home h_0_waste h_0_stock h_0_past h_0_start h_0_known h_0_sorted h_0_row h_0_best I_0 L_0 (nI 0) I_0u1 L_0u2 hc3) (cwV 2 hts (TBL_V mw_331 mw_332 mw_333 mw_5 mw_334) rfl rfl rfl pmX6_load ⟨Nat.le_of_ble_eq_true rfl, Nat.le_of_ble_eq_true rfl⟩) hS hA [0, 1, 2, 3, 4, 5, 6, 7, 8, 9, 10, 11, 12, 13, 14, 15] [] rfl rfl rfl rfl (by decide) rfl rfl rfl hl.1 rfl (Nat.le_of_ble_eq_true rfl) ⟨Nat.zero_le _, Nat.zero_le _⟩ dX6_look_124 rfl (fun H locs hS => ?_)
    refine lv_iload_n hx hb dX6_look_127 rfl (lv_at hl 1 rfl) ?_
    have e9_0 := Option.some.inj hF
    obtain ⟨f9_0, e9_1⟩ := Prod.mk.inj e9_0
    obtain ⟨f9_1, e9_2⟩ := Prod.mk.inj e9_1
    subst f9_0
    subst f9_1
    subst e9_2
    exact kret _ _ _ _ hS dX6_look_128
  have B88 : ∀ (K41 : (Nat → Nat → Int32) → (Nat → Nat → Int64) → Int32 → Int32 → Int32 → Int32 → Option (Int32 × (Nat → Nat → Int32) × (Nat → Nat → Int64))) (_ : ∀ (I_0 : Nat → Nat → Int32) (L_0 : Nat → Nat → Int64) (v1 : Int32) (v2 : Int32) (v3 : Int32) (v4 : Int32) (H : Heap) (locs : List Loc) (ls : Array Slot), HS D A H0 [(h_0, oX6 h_0_of h_0_kept h_0_column h_0_size h_0_hidden h_0_cell h_0_home h_0_waste h_0_stock h_0_past h_0_start h_0_known h_0_sorted h_0_row h_0_best I_0), (h_0_of, eI cI 9 (I_0 1)), (h_0_kept, eI cI 9 (I_0 2)), (h_0_column, eJ cJ 5 (L_0 0)), (h_0_size, eI cI 5 (I_0 3)), (h_0_hidden, eI cI 5 (I_0 4)), (h_0_cell, eI cI 2 (I_0 5)), (h_0_home, eI cI 4 (I_0 6)), (h_0_waste, eI cI 8 (I_0 7)), (h_0_stock, eI cI 8 (I_0 8)), (h_0_past, eJ cJ 1616 (L_0 1)), (h_0_start, eJ cJ 8 (L_0 2)), (h_0_known, eJ cJ 3216 (L_0 3)), (h_0_sorted, eJ cJ 3216 (L_0 4)), (h_0_row, eI cI 16 (I_0 9)), (h_0_best, eJ cJ 8 (L_0 5))] H locs → lv_has ls 7 [(0, .ref h_0), (1, .int v1), (2, .int v2), (3, .int v3), (4, .int v4)] → K41 I_0 L_0 v1 v2 v3 v4 = some (rv, r_I_0, r_L_0) → W p l e ({ frames := 6, cells := 0, slots := 0, locals := 147 } : Room) s m args below meth c H locs 0 0 Q (F0 m 41 ls [])) (I_0 : Nat → Nat → Int32) (L_0 : Nat → Nat → Int64) (v1 : Int32) (v3 : Int32) (v4 : Int32) (v6 : Int32) (H : Heap) (locs : List Loc) (ls : Array Slot), HS D A H0 [(h_0, oX6 h_0_of h_0_kept h_0_column h_0_size h_0_hidden h_0_cell h_0_home h_0_waste h_0_stock h_0_past h_0_start h_0_known h_0_sorted h_0_row h_0_best I_0), (h_0_of, eI cI 9 (I_0 1)), (h_0_kept, eI cI 9 (I_0 2)), (h_0_column, eJ cJ 5 (L_0 0)), (h_0_size, eI cI 5 (I_0 3)), (h_0_hidden, eI cI 5 (I_0 4)), (h_0_cell, eI cI 2 (I_0 5)), (h_0_home, eI cI 4 (I_0 6)), (h_0_waste, eI cI 8 (I_0 7)), (h_0_stock, eI cI 8 (I_0 8)), (h_0_past, eJ cJ 1616 (L_0 1)), (h_0_start, eJ cJ 8 (L_0 2)), (h_0_known, eJ cJ 3216 (L_0 3)), (h_0_sorted, eJ cJ 3216 (L_0 4)), (h_0_row, eI cI 16 (I_0 9)), (h_0_best, eJ cJ 8 (L_0 5))] H locs → lv_has ls 7 [(0, .ref h_0), (1, .int v1), (3, .int v3), (4, .int v4), (6, .int v6)] → F_X6_look_b88  K41 I_0 L_0 v1 v3 v4 v6 = some (rv, r_I_0, r_L_0) → W p l e ({ frames := 6, cells := 0, slots := 0, locals := 147 } : Room) s m args below meth c H locs 0 0 Q (F0 m 88 ls []) := by
    intro K41 hK41 I_0 L_0 v1 v3 v4 v6 H locs ls hS hl hF
    unfold F_X6_look_b88 at hF
    refine lv_iload hx hb dX6_look_88 (lv_at hl 4 rfl) ?_
    refine lv_iconst (v := (nI 1)) hx hb dX6_look_90 (by decide) ?_
    refine lv_icmp_ne (tgt := 99) hx hb dX6_look_91 (by decide) (fun c_4 => ?_) (fun c_4 => ?_)
    · replace hF := ifn hF c_4
      refine lv_iload hx hb dX6_look_99 (lv_at hl 4 rfl) ?_
      refine lv_iconst (v := (nI 2)) hx hb dX6_look_101 (by decide) ?_
      refine lv_icmp_ne (tgt := 110) hx hb dX6_look_102 (by decide) (fun c_5 => ?_) (fun c_5 => ?_)
      · replace hF := ifn hF c_5
        refine lv_iconst (v := (-1)) hx hb dX6_look_110 (by decide) ?_
        refine lv_istore_n (lv' := [(2, .int (-1)), (0, .ref h_0), (1, .int v1), (3, .int v3), (4, .int v4), (6, .int v6)]) hx hb dX6_look_111 rfl hl (by decide) rfl (fun ls hl => ?_)
        refine lv_iinc (v := v4 + (nI 1)) (lv' := [(4, .int (v4 + (nI 1))), (2, .int (-1)), (0, .ref h_0), (1, .int v1), (3, .int v3), (6, .int v6)]) hx hb dX6_look_112 hl (k := 4) rfl rfl (by decide) rfl (fun ls hl => ?_)
        refine lv_goto (tgt := 41) hx hb dX6_look_115 (by decide) ?_
        exact hK41 I_0 L_0 v1 (-1) v3 (v4 + (nI 1)) _ _ _ hS (lv_sub hl [2, 3, 1, 4, 0] rfl) hF
      · replace hF := ifp hF c_5
        refine lv_bipush (v := (-2)) hx hb dX6_look_105 (by decide) ?_
        refine lv_goto (tgt := 111) hx hb dX6_look_107 (by decide) ?_
        refine lv_istore_n (lv' := [(2, .int (-2)), (0, .ref h_0), (1, .int v1), (3, .int v3), (4, .int v4), (6, .int v6)]) hx hb dX6_look_111 rfl hl (by decide) rfl (fun ls hl => ?_)
        refine lv_iinc (v := v4 + (nI 1)) (lv' := [(4, .int (v4 + (nI 1))), (2, .int (-2)), (0, .ref h_0), (1, .int v1), (3, .int v3), (6, .int v6)]) hx hb dX6_look_112 hl (k := 4) rfl rfl (by decide) rfl (fun ls hl => ?_)
        refine lv_goto (tgt := 41) hx hb dX6_look_115 (by decide) ?_
        exact hK41 I_0 L_0 v1 (-2) v3 (v4 + (nI 1)) _ _ _ hS (lv_sub hl [2, 3, 1, 4, 0] rfl) hF
    · replace hF := ifp hF c_4
      refine lv_iload hx hb dX6_look_94 (lv_at hl 3 rfl) ?_
      refine lv_goto (tgt := 111) hx hb dX6_look_96 (by decide) ?_
      refine lv_istore_n (lv' := [(2, .int v4), (0, .ref h_0), (1, .int v1), (3, .int v3), (4, .int v4), (6, .int v6)]) hx hb dX6_look_111 rfl hl (by decide) rfl (fun ls hl => ?_)
      refine lv_iinc (v := v4 + (nI 1)) (lv' := [(4, .int (v4 + (nI 1))), (2, .int v4), (0, .ref h_0), (1, .int v1), (3, .int v3), (6, .int v6)]) hx hb dX6_look_112 hl (k := 4) rfl rfl (by decide) rfl (fun ls hl => ?_)
      refine lv_goto (tgt := 41) hx hb dX6_look_115 (by decide) ?_
      exact hK41 I_0 L_0 v1 v4 v3 (v4 + (nI 1)) _ _ _ hS (lv_sub hl [2, 3, 1, 4, 0] rfl) hF
  have S63 : ∀ (K41 : (Nat → Nat → Int32) → (Nat → Nat → Int64) → Int32 → Int32 → Int32 → Int32 → Option (Int32 × (Nat → Nat → Int32) × (Nat → Nat → Int64))) (_ : ∀ (I_0 : Nat → Nat → Int32) (L_0 : Nat → Nat → Int64) (v1 : Int32) (v2 : Int32) (v3 : Int32) (v4 : Int32) (H : Heap) (locs : List Loc) (ls : Array Slot), HS D A H0 [(h_0, oX6 h_0_of h_0_kept h_0_column h_0_size h_0_hidden h_0_cell h_0_home h_0_waste h_0_stock h_0_past h_0_start h_0_known h_0_sorted h_0_row h_0_best I_0), (h_0_of, eI cI 9 (I_0 1)), (h_0_kept, eI cI 9 (I_0 2)), (h_0_column, eJ cJ 5 (L_0 0)), (h_0_size, eI cI 5 (I_0 3)), (h_0_hidden, eI cI 5 (I_0 4)), (h_0_cell, eI cI 2 (I_0 5)), (h_0_home, eI cI 4 (I_0 6)), (h_0_waste, eI cI 8 (I_0 7)), (h_0_stock, eI cI 8 (I_0 8)), (h_0_past, eJ cJ 1616 (L_0 1)), (h_0_start, eJ cJ 8 (L_0 2)), (h_0_known, eJ cJ 3216 (L_0 3)), (h_0_sorted, eJ cJ 3216 (L_0 4)), (h_0_row, eI cI 16 (I_0 9)), (h_0_best, eJ cJ 8 (L_0 5))] H locs → lv_has ls 7 [(0, .ref h_0), (1, .int v1), (2, .int v2), (3, .int v3), (4, .int v4)] → K41 I_0 L_0 v1 v2 v3 v4 = some (rv, r_I_0, r_L_0) → W p l e ({ frames := 6, cells := 0, slots := 0, locals := 147 } : Room) s m args below meth c H locs 0 0 Q (F0 m 41 ls [])) (K63 : (Nat → Nat → Int32) → (Nat → Nat → Int64) → Int32 → Int32 → Int32 → Int32 → Int32 → Option (Int32 × (Nat → Nat → Int32) × (Nat → Nat → Int64))) (_ : ∀ (I_0 : Nat → Nat → Int32) (L_0 : Nat → Nat → Int64) (v1 : Int32) (v3 : Int32) (v4 : Int32) (v5 : Int32) (v6 : Int32) (H : Heap) (locs : List Loc) (ls : Array Slot), HS D A H0 [(h_0, oX6 h_0_of h_0_kept h_0_column h_0_size h_0_hidden h_0_cell h_0_home h_0_waste h_0_stock h_0_past h_0_start h_0_known h_0_sorted h_0_row h_0_best I_0), (h_0_of, eI cI 9 (I_0 1)), (h_0_kept, eI cI 9 (I_0 2)), (h_0_column, eJ cJ 5 (L_0 0)), (h_0_size, eI cI 5 (I_0 3)), (h_0_hidden, eI cI 5 (I_0 4)), (h_0_cell, eI cI 2 (I_0 5)), (h_0_home, eI cI 4 (I_0 6)), (h_0_waste, eI cI 8 (I_0 7)), (h_0_stock, eI cI 8 (I_0 8)), (h_0_past, eJ cJ 1616 (L_0 1)), (h_0_start, eJ cJ 8 (L_0 2)), (h_0_known, eJ cJ 3216 (L_0 3)), (h_0_sorted, eJ cJ 3216 (L_0 4)), (h_0_row, eI cI 16 (I_0 9)), (h_0_best, eJ cJ 8 (L_0 5))] H locs → lv_has ls 7 [(0, .ref h_0), (1, .int v1), (3, .int v3), (4, .int v4), (5, .int v5), (6, .int v6)] → K63 I_0 L_0 v1 v3 v4 v5 v6 = some (rv, r_I_0, r_L_0) → W p l e ({ frames := 6, cells := 0, slots := 0, locals := 147 } : Room) s m args below meth c H locs 0 0 Q (F0 m 63 ls [])) (I_0 : Nat → Nat → Int32) (L_0 : Nat → Nat → Int64) (v1 : Int32) (v3 : Int32) (v4 : Int32) (v5 : Int32) (v6 : Int32) (H : Heap) (locs : List Loc) (ls : Array Slot), HS D A H0 [(h_0, oX6 h_0_of h_0_kept h_0_column h_0_size h_0_hidden h_0_cell h_0_home h_0_waste h_0_stock h_0_past h_0_start h_0_known h_0_sorted h_0_row h_0_best I_0), (h_0_of, eI cI 9 (I_0 1)), (h_0_kept, eI cI 9 (I_0 2)), (h_0_column, eJ cJ 5 (L_0 0)), (h_0_size, eI cI 5 (I_0 3)), (h_0_hidden, eI cI 5 (I_0 4)), (h_0_cell, eI cI 2 (I_0 5)), (h_0_home, eI cI 4 (I_0 6)), (h_0_waste, eI cI 8 (I_0 7)), (h_0_stock, eI cI 8 (I_0 8)), (h_0_past, eJ cJ 1616 (L_0 1)), (h_0_start, eJ cJ 8 (L_0 2)), (h_0_known, eJ cJ 3216 (L_0 3)), (h_0_sorted, eJ cJ 3216 (L_0 4)), (h_0_row, eI cI 16 (I_0 9)), (h_0_best, eJ cJ 8 (L_0 5))] H locs → lv_has ls 7 [(0, .ref h_0), (1, .int v1), (3, .int v3), (4, .int v4), (5, .int v5), (6, .int v6)] → F_X6_look_s63  K41 K63 I_0 L_0 v1 v3 v4 v5 v6 = some (rv, r_I_0, r_L_0) → W p l e ({ frames := 6, cells := 0, slots := 0, locals := 147 } : Room) s m args below meth c H locs 0 0 Q (F0 m 63 ls []) := by
    intro K41 hK41 K63 hK63 I_0 L_0 v1 v3 v4 v5 v6 H locs ls hS hl hF
    unfold F_X6_look_s63 at hF
    refine lv_iload_n hx hb dX6_look_63 rfl (lv_at hl 2 rfl) ?_
    refine lv_iload hx hb dX6_look_64 (lv_at hl 4 rfl) ?_
    refine lv_icmp_ge (tgt := 88) hx hb dX6_look_66 (by decide) (fun c_6 => ?_) (fun c_6 => ?_)
    · replace hF := ifp hF c_6
      exact B88 K41 hK41 I_0 L_0 v1 v3 v4 v6 _ _ _ hS (lv_sub hl [0, 1, 2, 3, 5] rfl) hF
    · replace hF := ifn hF c_6
      refine lv_iload hx hb dX6_look_69 (lv_at hl 5 rfl) ?_
      refine lv_if_ne (tgt := 88) hx hb dX6_look_71 (by decide) (fun c_7 => ?_) (fun c_7 => ?_)
      · replace hF := ifn hF c_7
        exact B88 K41 hK41 I_0 L_0 v1 v3 v4 v6 _ _ _ hS (lv_sub hl [0, 1, 2, 3, 5] rfl) hF
      · replace hF := ifp hF c_7
        refine lv_aload_n hx hb dX6_look_74 rfl (lv_at hl 0 rfl) ?_
        refine lv_iload_n hx hb dX6_look_75 rfl (lv_at hl 2 rfl) ?_
        refine lv_iload_n hx hb dX6_look_76 rfl (lv_at hl 1 rfl) ?_
        replace hF := cal3_e hF
        obtain ⟨x8, I_0u9, L_0u10, hc11, hF⟩ := hF
        refine kV_i (As := [.int v3, .int v1]) (rest := []) (wr := []) (w2 := [(h_0, oX6 h_0_of h_0_kept h_0_column h_0_size h_0_hidden h_0_cell h_0_home h_0_waste h_0_stock h_0_past h_0_start h_0_known h_0_sorted h_0_row h_0_best I_0u9), (h_0_of, eI cI 9 (I_0u9 1)), (h_0_kept, eI cI 9 (I_0u9 2)), (h_0_column, eJ cJ 5 (L_0u10 0)), (h_0_size, eI cI 5 (I_0u9 3)), (h_0_hidden, eI cI 5 (I_0u9 4)), (h_0_cell, eI cI 2 (I_0u9 5)), (h_0_home, eI cI 4 (I_0u9 6)), (h_0_waste, eI cI 8 (I_0u9 7)), (h_0_stock, eI cI 8 (I_0u9 8)), (h_0_past, eJ cJ 1616 (L_0u10 1)), (h_0_start, eJ cJ 8 (L_0u10 2)), (h_0_known, eJ cJ 3216 (L_0u10 3)), (h_0_sorted, eJ cJ 3216 (L_0u10 4)), (h_0_row, eI cI 16 (I_0u9 9)), (h_0_best, eJ cJ 8 (L_0u10 5))]) hCF hK (c_X6_goOn l D cI cJ h_0 h_0_of h_0_kept h_0_column h_0_size h_0_hidden h_0_cell h_0_home h_0_waste h_0_stock h_0_past h_0_start h_0_known h_0_sorted h_0_row h_0_best I_0 L_0 v3 v1 x8 I_0u9 L_0u10 hc11) (cwV 2 hts (TBL_V mw_706 mw_707 mw_708 mw_5 mw_709) rfl rfl rfl pmX6_goOn ⟨Nat.le_of_ble_eq_true rfl, Nat.le_of_ble_eq_true rfl⟩) hS hA [0, 1, 2, 3, 4, 5, 6, 7, 8, 9, 10, 11, 12, 13, 14, 15] [] rfl rfl rfl rfl (by decide) rfl rfl rfl hl.1 rfl (Nat.le_of_ble_eq_true rfl) ⟨Nat.zero_le _, Nat.zero_le _⟩ dX6_look_77 rfl (fun H locs hS => ?_)
        refine lv_istore (lv' := [(6, .int x8), (0, .ref h_0), (1, .int v1), (3, .int v3), (4, .int v4), (5, .int v5)]) hx hb dX6_look_80 hl (by decide) rfl (fun ls hl => ?_)
        refine lv_iinc (v := v3 + (nI 1)) (lv' := [(3, .int (v3 + (nI 1))), (6, .int x8), (0, .ref h_0), (1, .int v1), (4, .int v4), (5, .int v5)]) hx hb dX6_look_82 hl (k := 3) rfl rfl (by decide) rfl (fun ls hl => ?_)
        refine lv_goto (tgt := 63) hx hb dX6_look_85 (by decide) ?_
        exact hK63 I_0u9 L_0u10 v1 (v3 + (nI 1)) v4 v5 x8 _ _ _ hS (lv_sub hl [2, 3, 0, 4, 5, 1] rfl) hF
  have L63 : ∀ (K41 : (Nat → Nat → Int32) → (Nat → Nat → Int64) → Int32 → Int32 → Int32 → Int32 → Option (Int32 × (Nat → Nat → Int32) × (Nat → Nat → Int64))) (_ : ∀ (I_0 : Nat → Nat → Int32) (L_0 : Nat → Nat → Int64) (v1 : Int32) (v2 : Int32) (v3 : Int32) (v4 : Int32) (H : Heap) (locs : List Loc) (ls : Array Slot), HS D A H0 [(h_0, oX6 h_0_of h_0_kept h_0_column h_0_size h_0_hidden h_0_cell h_0_home h_0_waste h_0_stock h_0_past h_0_start h_0_known h_0_sorted h_0_row h_0_best I_0), (h_0_of, eI cI 9 (I_0 1)), (h_0_kept, eI cI 9 (I_0 2)), (h_0_column, eJ cJ 5 (L_0 0)), (h_0_size, eI cI 5 (I_0 3)), (h_0_hidden, eI cI 5 (I_0 4)), (h_0_cell, eI cI 2 (I_0 5)), (h_0_home, eI cI 4 (I_0 6)), (h_0_waste, eI cI 8 (I_0 7)), (h_0_stock, eI cI 8 (I_0 8)), (h_0_past, eJ cJ 1616 (L_0 1)), (h_0_start, eJ cJ 8 (L_0 2)), (h_0_known, eJ cJ 3216 (L_0 3)), (h_0_sorted, eJ cJ 3216 (L_0 4)), (h_0_row, eI cI 16 (I_0 9)), (h_0_best, eJ cJ 8 (L_0 5))] H locs → lv_has ls 7 [(0, .ref h_0), (1, .int v1), (2, .int v2), (3, .int v3), (4, .int v4)] → K41 I_0 L_0 v1 v2 v3 v4 = some (rv, r_I_0, r_L_0) → W p l e ({ frames := 6, cells := 0, slots := 0, locals := 147 } : Room) s m args below meth c H locs 0 0 Q (F0 m 41 ls [])) (n : Nat) (I_0 : Nat → Nat → Int32) (L_0 : Nat → Nat → Int64) (v1 : Int32) (v3 : Int32) (v4 : Int32) (v5 : Int32) (v6 : Int32) (H : Heap) (locs : List Loc) (ls : Array Slot), HS D A H0 [(h_0, oX6 h_0_of h_0_kept h_0_column h_0_size h_0_hidden h_0_cell h_0_home h_0_waste h_0_stock h_0_past h_0_start h_0_known h_0_sorted h_0_row h_0_best I_0), (h_0_of, eI cI 9 (I_0 1)), (h_0_kept, eI cI 9 (I_0 2)), (h_0_column, eJ cJ 5 (L_0 0)), (h_0_size, eI cI 5 (I_0 3)), (h_0_hidden, eI cI 5 (I_0 4)), (h_0_cell, eI cI 2 (I_0 5)), (h_0_home, eI cI 4 (I_0 6)), (h_0_waste, eI cI 8 (I_0 7)), (h_0_stock, eI cI 8 (I_0 8)), (h_0_past, eJ cJ 1616 (L_0 1)), (h_0_start, eJ cJ 8 (L_0 2)), (h_0_known, eJ cJ 3216 (L_0 3)), (h_0_sorted, eJ cJ 3216 (L_0 4)), (h_0_row, eI cI 16 (I_0 9)), (h_0_best, eJ cJ 8 (L_0 5))] H locs → lv_has ls 7 [(0, .ref h_0), (1, .int v1), (3, .int v3), (4, .int v4), (5, .int v5), (6, .int v6)] → F_X6_look_L63  K41 n I_0 L_0 v1 v3 v4 v5 v6 = some (rv, r_I_0, r_L_0) → W p l e ({ frames := 6, cells := 0, slots := 0, locals := 147 } : Room) s m args below meth c H locs 0 0 Q (F0 m 63 ls []) := by
    intro K41 hK41 n
    induction n with
    | zero => intro I_0 L_0 v1 v3 v4 v5 v6 H locs ls hS hl hF; exact nomatch (show (none : Option (Int32 × (Nat → Nat → Int32) × (Nat → Nat → Int64))) = some _ from hF)
    | succ n ih => intro I_0 L_0 v1 v3 v4 v5 v6 H locs ls hS hl hF; exact S63 K41 hK41 _ ih I_0 L_0 v1 v3 v4 v5 v6 H locs ls hS hl hF
  have S41 : ∀ (K41 : (Nat → Nat → Int32) → (Nat → Nat → Int64) → Int32 → Int32 → Int32 → Int32 → Option (Int32 × (Nat → Nat → Int32) × (Nat → Nat → Int64))) (_ : ∀ (I_0 : Nat → Nat → Int32) (L_0 : Nat → Nat → Int64) (v1 : Int32) (v2 : Int32) (v3 : Int32) (v4 : Int32) (H : Heap) (locs : List Loc) (ls : Array Slot), HS D A H0 [(h_0, oX6 h_0_of h_0_kept h_0_column h_0_size h_0_hidden h_0_cell h_0_home h_0_waste h_0_stock h_0_past h_0_start h_0_known h_0_sorted h_0_row h_0_best I_0), (h_0_of, eI cI 9 (I_0 1)), (h_0_kept, eI cI 9 (I_0 2)), (h_0_column, eJ cJ 5 (L_0 0)), (h_0_size, eI cI 5 (I_0 3)), (h_0_hidden, eI cI 5 (I_0 4)), (h_0_cell, eI cI 2 (I_0 5)), (h_0_home, eI cI 4 (I_0 6)), (h_0_waste, eI cI 8 (I_0 7)), (h_0_stock, eI cI 8 (I_0 8)), (h_0_past, eJ cJ 1616 (L_0 1)), (h_0_start, eJ cJ 8 (L_0 2)), (h_0_known, eJ cJ 3216 (L_0 3)), (h_0_sorted, eJ cJ 3216 (L_0 4)), (h_0_row, eI cI 16 (I_0 9)), (h_0_best, eJ cJ 8 (L_0 5))] H locs → lv_has ls 7 [(0, .ref h_0), (1, .int v1), (2, .int v2), (3, .int v3), (4, .int v4)] → K41 I_0 L_0 v1 v2 v3 v4 = some (rv, r_I_0, r_L_0) → W p l e ({ frames := 6, cells := 0, slots := 0, locals := 147 } : Room) s m args below meth c H locs 0 0 Q (F0 m 41 ls [])) (I_0 : Nat → Nat → Int32) (L_0 : Nat → Nat → Int64) (v1 : Int32) (v2 : Int32) (v3 : Int32) (v4 : Int32) (H : Heap) (locs : List Loc) (ls : Array Slot), HS D A H0 [(h_0, oX6 h_0_of h_0_kept h_0_column h_0_size h_0_hidden h_0_cell h_0_home h_0_waste h_0_stock h_0_past h_0_start h_0_known h_0_sorted h_0_row h_0_best I_0), (h_0_of, eI cI 9 (I_0 1)), (h_0_kept, eI cI 9 (I_0 2)), (h_0_column, eJ cJ 5 (L_0 0)), (h_0_size, eI cI 5 (I_0 3)), (h_0_hidden, eI cI 5 (I_0 4)), (h_0_cell, eI cI 2 (I_0 5)), (h_0_home, eI cI 4 (I_0 6)), (h_0_waste, eI cI 8 (I_0 7)), (h_0_stock, eI cI 8 (I_0 8)), (h_0_past, eJ cJ 1616 (L_0 1)), (h_0_start, eJ cJ 8 (L_0 2)), (h_0_known, eJ cJ 3216 (L_0 3)), (h_0_sorted, eJ cJ 3216 (L_0 4)), (h_0_row, eI cI 16 (I_0 9)), (h_0_best, eJ cJ 8 (L_0 5))] H locs → lv_has ls 7 [(0, .ref h_0), (1, .int v1), (2, .int v2), (3, .int v3), (4, .int v4)] → F_X6_look_s41  K41 I_0 L_0 v1 v2 v3 v4 = some (rv, r_I_0, r_L_0) → W p l e ({ frames := 6, cells := 0, slots := 0, locals := 147 } : Room) s m args below meth c H locs 0 0 Q (F0 m 41 ls []) := by
    intro K41 hK41 I_0 L_0 v1 v2 v3 v4 H locs ls hS hl hF
    unfold F_X6_look_s41 at hF
    refine lv_iload_n hx hb dX6_look_41 rfl (lv_at hl 2 rfl) ?_
    refine lv_iconst (v := (-1)) hx hb dX6_look_42 (by decide) ?_
    refine lv_icmp_ne (tgt := 118) hx hb dX6_look_43 (by decide) (fun c_12 => ?_) (fun c_12 => ?_)
    · replace hF := ifn hF c_12
      exact B118 I_0 L_0 v2 _ _ _ hS (lv_sub hl [0, 2] rfl) hF
    · replace hF := ifp hF c_12
      refine lv_iload_n hx hb dX6_look_46 rfl (lv_at hl 3 rfl) ?_
      refine lv_aload_n hx hb dX6_look_47 rfl (lv_at hl 0 rfl) ?_
      refine r_get hx hb hts inX6 hown hK hS 0 29 rfl rfl (by decide) q2 rfl dX6_look_48 ?_
      refine lv_icmp_ge (tgt := 118) hx hb dX6_look_51 (by decide) (fun c_13 => ?_) (fun c_13 => ?_)
      · replace hF := ifp hF c_13
        exact B118 I_0 L_0 v2 _ _ _ hS (lv_sub hl [0, 2] rfl) hF
      · replace hF := ifn hF c_13
        refine lv_aload_n hx hb dX6_look_54 rfl (lv_at hl 0 rfl) ?_
        refine r_get hx hb hts inX6 hown hK hS 0 29 rfl rfl (by decide) q2 rfl dX6_look_55 ?_
        refine lv_istore (lv' := [(5, .int (I_0 0 29)), (0, .ref h_0), (1, .int v1), (2, .int v2), (3, .int v3), (4, .int v4)]) hx hb dX6_look_58 hl (by decide) rfl (fun ls hl => ?_)
        refine lv_iconst (v := (nI 0)) hx hb dX6_look_60 (by decide) ?_
        refine lv_istore (lv' := [(6, .int (nI 0)), (5, .int (I_0 0 29)), (0, .ref h_0), (1, .int v1), (2, .int v2), (3, .int v3), (4, .int v4)]) hx hb dX6_look_61 hl (by decide) rfl (fun ls hl => ?_)
        exact L63 K41 hK41 FU I_0 L_0 v1 v3 v4 (I_0 0 29) (nI 0) _ _ _ hS (lv_sub hl [2, 3, 5, 6, 1, 0] rfl) hF
  have L41 : ∀  (n : Nat) (I_0 : Nat → Nat → Int32) (L_0 : Nat → Nat → Int64) (v1 : Int32) (v2 : Int32) (v3 : Int32) (v4 : Int32) (H : Heap) (locs : List Loc) (ls : Array Slot), HS D A H0 [(h_0, oX6 h_0_of h_0_kept h_0_column h_0_size h_0_hidden h_0_cell h_0_home h_0_waste h_0_stock h_0_past h_0_start h_0_known h_0_sorted h_0_row h_0_best I_0), (h_0_of, eI cI 9 (I_0 1)), (h_0_kept, eI cI 9 (I_0 2)), (h_0_column, eJ cJ 5 (L_0 0)), (h_0_size, eI cI 5 (I_0 3)), (h_0_hidden, eI cI 5 (I_0 4)), (h_0_cell, eI cI 2 (I_0 5)), (h_0_home, eI cI 4 (I_0 6)), (h_0_waste, eI cI 8 (I_0 7)), (h_0_stock, eI cI 8 (I_0 8)), (h_0_past, eJ cJ 1616 (L_0 1)), (h_0_start, eJ cJ 8 (L_0 2)), (h_0_known, eJ cJ 3216 (L_0 3)), (h_0_sorted, eJ cJ 3216 (L_0 4)), (h_0_row, eI cI 16 (I_0 9)), (h_0_best, eJ cJ 8 (L_0 5))] H locs → lv_has ls 7 [(0, .ref h_0), (1, .int v1), (2, .int v2), (3, .int v3), (4, .int v4)] → F_X6_look_L41   n I_0 L_0 v1 v2 v3 v4 = some (rv, r_I_0, r_L_0) → W p l e ({ frames := 6, cells := 0, slots := 0, locals := 147 } : Room) s m args below meth c H locs 0 0 Q (F0 m 41 ls []) := by
    intro  n
    induction n with
    | zero => intro I_0 L_0 v1 v2 v3 v4 H locs ls hS hl hF; exact nomatch (show (none : Option (Int32 × (Nat → Nat → Int32) × (Nat → Nat → Int64))) = some _ from hF)
    | succ n ih => intro I_0 L_0 v1 v2 v3 v4 H locs ls hS hl hF; exact S41  _ ih I_0 L_0 v1 v2 v3 v4 H locs ls hS hl hF
  have B35 : ∀ (I_0 : Nat → Nat → Int32) (L_0 : Nat → Nat → Int64) (v1 : Int32) (s0 : Int32) (H : Heap) (locs : List Loc) (ls : Array Slot), HS D A H0 [(h_0, oX6 h_0_of h_0_kept h_0_column h_0_size h_0_hidden h_0_cell h_0_home h_0_waste h_0_stock h_0_past h_0_start h_0_known h_0_sorted h_0_row h_0_best I_0), (h_0_of, eI cI 9 (I_0 1)), (h_0_kept, eI cI 9 (I_0 2)), (h_0_column, eJ cJ 5 (L_0 0)), (h_0_size, eI cI 5 (I_0 3)), (h_0_hidden, eI cI 5 (I_0 4)), (h_0_cell, eI cI 2 (I_0 5)), (h_0_home, eI cI 4 (I_0 6)), (h_0_waste, eI cI 8 (I_0 7)), (h_0_stock, eI cI 8 (I_0 8)), (h_0_past, eJ cJ 1616 (L_0 1)), (h_0_start, eJ cJ 8 (L_0 2)), (h_0_known, eJ cJ 3216 (L_0 3)), (h_0_sorted, eJ cJ 3216 (L_0 4)), (h_0_row, eI cI 16 (I_0 9)), (h_0_best, eJ cJ 8 (L_0 5))] H locs → lv_has ls 7 [(0, .ref h_0), (1, .int v1)] → F_X6_look_b35   I_0 L_0 v1 s0 = some (rv, r_I_0, r_L_0) → W p l e ({ frames := 6, cells := 0, slots := 0, locals := 147 } : Room) s m args below meth c H locs 0 0 Q (F0 m 35 ls [.int s0]) := by
    intro I_0 L_0 v1 s0 H locs ls hS hl hF
    unfold F_X6_look_b35 at hF
    refine lv_istore_n (lv' := [(2, .int s0), (0, .ref h_0), (1, .int v1)]) hx hb dX6_look_35 rfl hl (by decide) rfl (fun ls hl => ?_)
    refine lv_iconst (v := (nI 0)) hx hb dX6_look_36 (by decide) ?_
    refine lv_istore_n (lv' := [(3, .int (nI 0)), (2, .int s0), (0, .ref h_0), (1, .int v1)]) hx hb dX6_look_37 rfl hl (by decide) rfl (fun ls hl => ?_)
    refine lv_iconst (v := (nI 1)) hx hb dX6_look_38 (by decide) ?_
    refine lv_istore (lv' := [(4, .int (nI 1)), (3, .int (nI 0)), (2, .int s0), (0, .ref h_0), (1, .int v1)]) hx hb dX6_look_39 hl (by decide) rfl (fun ls hl => ?_)
    exact L41 FU I_0 L_0 v1 s0 (nI 0) (nI 1) _ _ _ hS (lv_sub hl [3, 4, 2, 1, 0] rfl) hF
  unfold F_X6_look at hF
  refine lv_aload_n hx hb dX6_look_0 rfl (lv_at hl 0 rfl) ?_
  refine lv_iconst (v := (nI 1)) hx hb dX6_look_1 (by decide) ?_
  replace hF := bnd_e hF
  obtain ⟨I_0u14, eI_0u14, hF⟩ := hF
  refine r_put (w2 := [(h_0, oX6 h_0_of h_0_kept h_0_column h_0_size h_0_hidden h_0_cell h_0_home h_0_waste h_0_stock h_0_past h_0_start h_0_known h_0_sorted h_0_row h_0_best I_0u14), (h_0_of, eI cI 9 (I_0u14 1)), (h_0_kept, eI cI 9 (I_0u14 2)), (h_0_column, eJ cJ 5 (L_0 0)), (h_0_size, eI cI 5 (I_0u14 3)), (h_0_hidden, eI cI 5 (I_0u14 4)), (h_0_cell, eI cI 2 (I_0u14 5)), (h_0_home, eI cI 4 (I_0u14 6)), (h_0_waste, eI cI 8 (I_0u14 7)), (h_0_stock, eI cI 8 (I_0u14 8)), (h_0_past, eJ cJ 1616 (L_0 1)), (h_0_start, eJ cJ 8 (L_0 2)), (h_0_known, eJ cJ 3216 (L_0 3)), (h_0_sorted, eJ cJ 3216 (L_0 4)), (h_0_row, eI cI 16 (I_0u14 9)), (h_0_best, eJ cJ 8 (L_0 5))]) hx hb hts inX6 tyX6 tyX6_ok nmX6 hown hK hS 0 29 rfl rfl (by decide) q2 rfl rfl rfl (Nat.le_of_ble_eq_true rfl) dX6_look_2 (by rw [eI_0u14]; rfl) (fun H locs hS => ?_)
  refine lv_aload_n hx hb dX6_look_5 rfl (lv_at hl 0 rfl) ?_
  refine lv_aload_n hx hb dX6_look_6 rfl (lv_at hl 0 rfl) ?_
  refine r_get hx hb hts inX6 hown hK hS 0 27 rfl rfl (by decide) q0 rfl dX6_look_7 ?_
  refine lv_iconst (v := (nI 0)) hx hb dX6_look_10 (by decide) ?_
  replace hF := cal1_e hF
  obtain ⟨L_0u15, hc16, hF⟩ := hF
  refine kV_v (As := [.ref h_0_known, .int (nI 0)]) (rest := []) (wr := []) (w2 := [(h_0, oX6 h_0_of h_0_kept h_0_column h_0_size h_0_hidden h_0_cell h_0_home h_0_waste h_0_stock h_0_past h_0_start h_0_known h_0_sorted h_0_row h_0_best I_0u14), (h_0_of, eI cI 9 (I_0u14 1)), (h_0_kept, eI cI 9 (I_0u14 2)), (h_0_column, eJ cJ 5 (L_0u15 0)), (h_0_size, eI cI 5 (I_0u14 3)), (h_0_hidden, eI cI 5 (I_0u14 4)), (h_0_cell, eI cI 2 (I_0u14 5)), (h_0_home, eI cI 4 (I_0u14 6)), (h_0_waste, eI cI 8 (I_0u14 7)), (h_0_stock, eI cI 8 (I_0u14 8)), (h_0_past, eJ cJ 1616 (L_0u15 1)), (h_0_start, eJ cJ 8 (L_0u15 2)), (h_0_known, eJ cJ 3216 (L_0u15 3)), (h_0_sorted, eJ cJ 3216 (L_0u15 4)), (h_0_row, eI cI 16 (I_0u14 9)), (h_0_best, eJ cJ 8 (L_0u15 5))]) hCF hK (c_X6_store_known l D cI cJ h_0 h_0_of h_0_kept h_0_column h_0_size h_0_hidden h_0_cell h_0_home h_0_waste h_0_stock h_0_past h_0_start h_0_known h_0_sorted h_0_row h_0_best I_0u14 L_0 (nI 0) L_0u15 hc16) (cwV 2 hts (TBL_V mw_209 mw_210 mw_211 mw_5 mw_212) rfl rfl rfl pmX6_store ⟨Nat.le_of_ble_eq_true rfl, Nat.le_of_ble_eq_true rfl⟩) hS hA [0, 1, 2, 3, 4, 5, 6, 7, 8, 9, 10, 11, 12, 13, 14, 15] [] rfl rfl rfl rfl (by decide) rfl rfl rfl hl.1 rfl (Nat.le_of_ble_eq_true rfl) ⟨Nat.zero_le _, Nat.zero_le _⟩ dX6_look_11 rfl (fun H locs hS => ?_)
  refine lv_aload_n hx hb dX6_look_14 rfl (lv_at hl 0 rfl) ?_
  refine lv_aload_n hx hb dX6_look_15 rfl (lv_at hl 0 rfl) ?_
  refine r_get hx hb hts inX6 hown hK hS 0 28 rfl rfl (by decide) q3 rfl dX6_look_16 ?_
  refine lv_iconst (v := (nI 0)) hx hb dX6_look_19 (by decide) ?_
  replace hF := cal1_e hF
  obtain ⟨L_0u17, hc18, hF⟩ := hF
  refine kV_v (As := [.ref h_0_sorted, .int (nI 0)]) (rest := []) (wr := []) (w2 := [(h_0, oX6 h_0_of h_0_kept h_0_column h_0_size h_0_hidden h_0_cell h_0_home h_0_waste h_0_stock h_0_past h_0_start h_0_known h_0_sorted h_0_row h_0_best I_0u14), (h_0_of, eI cI 9 (I_0u14 1)), (h_0_kept, eI cI 9 (I_0u14 2)), (h_0_column, eJ cJ 5 (L_0u17 0)), (h_0_size, eI cI 5 (I_0u14 3)), (h_0_hidden, eI cI 5 (I_0u14 4)), (h_0_cell, eI cI 2 (I_0u14 5)), (h_0_home, eI cI 4 (I_0u14 6)), (h_0_waste, eI cI 8 (I_0u14 7)), (h_0_stock, eI cI 8 (I_0u14 8)), (h_0_past, eJ cJ 1616 (L_0u17 1)), (h_0_start, eJ cJ 8 (L_0u17 2)), (h_0_known, eJ cJ 3216 (L_0u17 3)), (h_0_sorted, eJ cJ 3216 (L_0u17 4)), (h_0_row, eI cI 16 (I_0u14 9)), (h_0_best, eJ cJ 8 (L_0u17 5))]) hCF hK (c_X6_sort_sorted l D cI cJ h_0 h_0_of h_0_kept h_0_column h_0_size h_0_hidden h_0_cell h_0_home h_0_waste h_0_stock h_0_past h_0_start h_0_known h_0_sorted h_0_row h_0_best I_0u14 L_0u15 (nI 0) L_0u17 hc18) (cwV 2 hts (TBL_V mw_698 mw_699 mw_700 mw_5 mw_701) rfl rfl rfl pmX6_sort ⟨Nat.le_of_ble_eq_true rfl, Nat.le_of_ble_eq_true rfl⟩) hS hA [0, 1, 2, 3, 4, 5, 6, 7, 8, 9, 10, 11, 12, 13, 14, 15] [] rfl rfl rfl rfl (by decide) rfl rfl rfl hl.1 rfl (Nat.le_of_ble_eq_true rfl) ⟨Nat.zero_le _, Nat.zero_le _⟩ dX6_look_20 rfl (fun H locs hS => ?_)
  refine lv_aload_n hx hb dX6_look_23 rfl (lv_at hl 0 rfl) ?_
  replace hF := cal1_e hF
  obtain ⟨x19, hc20, hF⟩ := hF
  refine kV_i (As := []) (rest := []) (wr := []) (w2 := [(h_0, oX6 h_0_of h_0_kept h_0_column h_0_size h_0_hidden h_0_cell h_0_home h_0_waste h_0_stock h_0_past h_0_start h_0_known h_0_sorted h_0_row h_0_best I_0u14), (h_0_of, eI cI 9 (I_0u14 1)), (h_0_kept, eI cI 9 (I_0u14 2)), (h_0_column, eJ cJ 5 (L_0u17 0)), (h_0_size, eI cI 5 (I_0u14 3)), (h_0_hidden, eI cI 5 (I_0u14 4)), (h_0_cell, eI cI 2 (I_0u14 5)), (h_0_home, eI cI 4 (I_0u14 6)), (h_0_waste, eI cI 8 (I_0u14 7)), (h_0_stock, eI cI 8 (I_0u14 8)), (h_0_past, eJ cJ 1616 (L_0u17 1)), (h_0_start, eJ cJ 8 (L_0u17 2)), (h_0_known, eJ cJ 3216 (L_0u17 3)), (h_0_sorted, eJ cJ 3216 (L_0u17 4)), (h_0_row, eI cI 16 (I_0u14 9)), (h_0_best, eJ cJ 8 (L_0u17 5))]) hCF hK (c_X6_isWon l D cI cJ h_0 h_0_of h_0_kept h_0_column h_0_size h_0_hidden h_0_cell h_0_home h_0_waste h_0_stock h_0_past h_0_start h_0_known h_0_sorted h_0_row h_0_best I_0u14 L_0u17 x19 hc20) (cwV 0 hts (TBL_V mw_638 mw_639 mw_640 mw_5 mw_641) rfl rfl rfl pmX6_isWon ⟨Nat.le_of_ble_eq_true rfl, Nat.le_of_ble_eq_true rfl⟩) hS hA [0, 1, 2, 3, 4, 5, 6, 7, 8, 9, 10, 11, 12, 13, 14, 15] [] rfl rfl rfl rfl (by decide) rfl rfl rfl hl.1 rfl (Nat.le_of_ble_eq_true rfl) ⟨Nat.zero_le _, Nat.zero_le _⟩ dX6_look_24 rfl (fun H locs hS => ?_)
  refine lv_if_eq (tgt := 34) hx hb dX6_look_27 (by decide) (fun c_21 => ?_) (fun c_21 => ?_)
  · replace hF := ifp hF c_21
    refine lv_iconst (v := (-1)) hx hb dX6_look_34 (by decide) ?_
    exact B35 I_0u14 L_0u17 v1 (-1) _ _ _ hS (lv_sub hl [0, 1] rfl) hF
  · replace hF := ifn hF c_21
    refine lv_iconst (v := (nI 0)) hx hb dX6_look_30 (by decide) ?_
    refine lv_goto (tgt := 35) hx hb dX6_look_31 (by decide) ?_
    exact B35 I_0u14 L_0u17 v1 (nI 0) _ _ _ hS (lv_sub hl [0, 1] rfl) hF
set_option maxHeartbeats 4000000 in
set_option maxRecDepth 100000 in
theorem c_X6_search (l : Launch) (D : va_G) (cI cJ : ClassId) (h_0 h_0_of h_0_kept h_0_column h_0_size h_0_hidden h_0_cell h_0_home h_0_waste h_0_stock h_0_past h_0_start h_0_known h_0_sorted h_0_row h_0_best : Nat) (I_0 : Nat → Nat → Int32) (L_0 : Nat → Nat → Int64) (v1 : Int32) (rv : Int32) (r_I_0 : Nat → Nat → Int32) (r_L_0 : Nat → Nat → Int64) (hF : F_X6_search I_0 L_0 v1 = some (rv, r_I_0, r_L_0)) : CtI l D [(cI, .int), (cJ, .long)] yX6_search wtX6_search ({ frames := 7, cells := 0, slots := 0, locals := 173 } : Room) [.ref h_0, .int v1] [(h_0, oX6 h_0_of h_0_kept h_0_column h_0_size h_0_hidden h_0_cell h_0_home h_0_waste h_0_stock h_0_past h_0_start h_0_known h_0_sorted h_0_row h_0_best I_0), (h_0_of, eI cI 9 (I_0 1)), (h_0_kept, eI cI 9 (I_0 2)), (h_0_column, eJ cJ 5 (L_0 0)), (h_0_size, eI cI 5 (I_0 3)), (h_0_hidden, eI cI 5 (I_0 4)), (h_0_cell, eI cI 2 (I_0 5)), (h_0_home, eI cI 4 (I_0 6)), (h_0_waste, eI cI 8 (I_0 7)), (h_0_stock, eI cI 8 (I_0 8)), (h_0_past, eJ cJ 1616 (L_0 1)), (h_0_start, eJ cJ 8 (L_0 2)), (h_0_known, eJ cJ 3216 (L_0 3)), (h_0_sorted, eJ cJ 3216 (L_0 4)), (h_0_row, eI cI 16 (I_0 9)), (h_0_best, eJ cJ 8 (L_0 5))] [(h_0, oX6 h_0_of h_0_kept h_0_column h_0_size h_0_hidden h_0_cell h_0_home h_0_waste h_0_stock h_0_past h_0_start h_0_known h_0_sorted h_0_row h_0_best r_I_0), (h_0_of, eI cI 9 (r_I_0 1)), (h_0_kept, eI cI 9 (r_I_0 2)), (h_0_column, eJ cJ 5 (r_L_0 0)), (h_0_size, eI cI 5 (r_I_0 3)), (h_0_hidden, eI cI 5 (r_I_0 4)), (h_0_cell, eI cI 2 (r_I_0 5)), (h_0_home, eI cI 4 (r_I_0 6)), (h_0_waste, eI cI 8 (r_I_0 7)), (h_0_stock, eI cI 8 (r_I_0 8)), (h_0_past, eJ cJ 1616 (r_L_0 1)), (h_0_start, eJ cJ 8 (r_L_0 2)), (h_0_known, eJ cJ 3216 (r_L_0 3)), (h_0_sorted, eJ cJ 3216 (r_L_0 4)), (h_0_row, eI cI 16 (r_I_0 9)), (h_0_best, eJ cJ 8 (r_L_0 5))] rv := by
  refine CtI.of (cc := cX6_search) (maxL := 2) (by decide) rfl (Nat.le_of_ble_eq_true rfl) ?_
  intro p e s m args below meth c A H0 Q ls X hS hl kret
  have hCF := X.1
  obtain ⟨⟨hx, hb, hml, hown, hts⟩, hK, hA⟩ := X
  have hl : lv_has ls 2 [(0, .ref h_0), (1, .int v1)] := hl
  have B17 : ∀ (I_0 : Nat → Nat → Int32) (L_0 : Nat → Nat → Int64) (v1 : Int32) (s1 : Int32) (H : Heap) (locs : List Loc) (ls : Array Slot), HS D A H0 [(h_0, oX6 h_0_of h_0_kept h_0_column h_0_size h_0_hidden h_0_cell h_0_home h_0_waste h_0_stock h_0_past h_0_start h_0_known h_0_sorted h_0_row h_0_best I_0), (h_0_of, eI cI 9 (I_0 1)), (h_0_kept, eI cI 9 (I_0 2)), (h_0_column, eJ cJ 5 (L_0 0)), (h_0_size, eI cI 5 (I_0 3)), (h_0_hidden, eI cI 5 (I_0 4)), (h_0_cell, eI cI 2 (I_0 5)), (h_0_home, eI cI 4 (I_0 6)), (h_0_waste, eI cI 8 (I_0 7)), (h_0_stock, eI cI 8 (I_0 8)), (h_0_past, eJ cJ 1616 (L_0 1)), (h_0_start, eJ cJ 8 (L_0 2)), (h_0_known, eJ cJ 3216 (L_0 3)), (h_0_sorted, eJ cJ 3216 (L_0 4)), (h_0_row, eI cI 16 (I_0 9)), (h_0_best, eJ cJ 8 (L_0 5))] H locs → lv_has ls 2 [(0, .ref h_0), (1, .int v1)] → F_X6_search_b17   I_0 L_0 v1 s1 = some (rv, r_I_0, r_L_0) → W p l e ({ frames := 7, cells := 0, slots := 0, locals := 173 } : Room) s m args below meth c H locs 0 0 Q (F0 m 17 ls [.int s1, .ref h_0]) := by
    intro I_0 L_0 v1 s1 H locs ls hS hl hF
    unfold F_X6_search_b17 at hF
    replace hF := cal2_e hF
    obtain ⟨x1, I_0u2, hc3, hF⟩ := hF
    refine kV_i (As := [.int s1]) (rest := []) (wr := []) (w2 := [(h_0, oX6 h_0_of h_0_kept h_0_column h_0_size h_0_hidden h_0_cell h_0_home h_0_waste h_0_stock h_0_past h_0_start h_0_known h_0_sorted h_0_row h_0_best I_0u2), (h_0_of, eI cI 9 (I_0u2 1)), (h_0_kept, eI cI 9 (I_0u2 2)), (h_0_column, eJ cJ 5 (L_0 0)), (h_0_size, eI cI 5 (I_0u2 3)), (h_0_hidden, eI cI 5 (I_0u2 4)), (h_0_cell, eI cI 2 (I_0u2 5)), (h_0_home, eI cI 4 (I_0u2 6)), (h_0_waste, eI cI 8 (I_0u2 7)), (h_0_stock, eI cI 8 (I_0u2 8)), (h_0_past, eJ cJ 1616 (L_0 1)), (h_0_start, eJ cJ 8 (L_0 2)), (h_0_known, eJ cJ 3216 (L_0 3)), (h_0_sorted, eJ cJ 3216 (L_0 4)), (h_0_row, eI cI 16 (I_0u2 9)), (h_0_best, eJ cJ 8 (L_0 5))]) hCF hK (c_X6_goesWell l D cI cJ h_0 h_0_of h_0_kept h_0_column h_0_size h_0_hidden h_0_cell h_0_home h_0_waste h_0_stock h_0_past h_0_start h_0_known h_0_sorted h_0_row h_0_best L_0 I_0 s1 x1 I_0u2 hc3) (cwV 1 hts (TBL_V mw_237 mw_238 mw_239 mw_5 mw_240) rfl rfl rfl pmX6_goesWell ⟨Nat.le_of_ble_eq_true rfl, Nat.le_of_ble_eq_true rfl⟩) hS hA [0, 1, 2, 3, 4, 5, 6, 7, 8, 9, 10, 11, 12, 13, 14, 15] [] rfl rfl rfl rfl (by decide) rfl rfl rfl hl.1 rfl (Nat.le_of_ble_eq_true rfl) ⟨Nat.zero_le _, Nat.zero_le _⟩ dX6_search_17 rfl (fun H locs hS => ?_)
    refine lv_if_eq (tgt := 31) hx hb dX6_search_20 (by decide) (fun c_4 => ?_) (fun c_4 => ?_)
    · replace hF := ifp hF c_4
      refine lv_iconst (v := (nI 0)) hx hb dX6_search_31 (by decide) ?_
      have e9_0 := Option.some.inj hF
      obtain ⟨f9_0, e9_1⟩ := Prod.mk.inj e9_0
      obtain ⟨f9_1, e9_2⟩ := Prod.mk.inj e9_1
      subst f9_0
      subst f9_1
      subst e9_2
      exact kret _ _ _ _ hS dX6_search_32
    · replace hF := ifn hF c_4
      refine lv_aload_n hx hb dX6_search_23 rfl (lv_at hl 0 rfl) ?_
      refine lv_iload_n hx hb dX6_search_24 rfl (lv_at hl 1 rfl) ?_
      replace hF := cal3_e hF
      obtain ⟨x5, I_0u6, L_0u7, hc8, hF⟩ := hF
      refine kV_i (As := [.int v1]) (rest := []) (wr := []) (w2 := [(h_0, oX6 h_0_of h_0_kept h_0_column h_0_size h_0_hidden h_0_cell h_0_home h_0_waste h_0_stock h_0_past h_0_start h_0_known h_0_sorted h_0_row h_0_best I_0u6), (h_0_of, eI cI 9 (I_0u6 1)), (h_0_kept, eI cI 9 (I_0u6 2)), (h_0_column, eJ cJ 5 (L_0u7 0)), (h_0_size, eI cI 5 (I_0u6 3)), (h_0_hidden, eI cI 5 (I_0u6 4)), (h_0_cell, eI cI 2 (I_0u6 5)), (h_0_home, eI cI 4 (I_0u6 6)), (h_0_waste, eI cI 8 (I_0u6 7)), (h_0_stock, eI cI 8 (I_0u6 8)), (h_0_past, eJ cJ 1616 (L_0u7 1)), (h_0_start, eJ cJ 8 (L_0u7 2)), (h_0_known, eJ cJ 3216 (L_0u7 3)), (h_0_sorted, eJ cJ 3216 (L_0u7 4)), (h_0_row, eI cI 16 (I_0u6 9)), (h_0_best, eJ cJ 8 (L_0u7 5))]) hCF hK (c_X6_look l D cI cJ h_0 h_0_of h_0_kept h_0_column h_0_size h_0_hidden h_0_cell h_0_home h_0_waste h_0_stock h_0_past h_0_start h_0_known h_0_sorted h_0_row h_0_best I_0u2 L_0 v1 x5 I_0u6 L_0u7 hc8) (cwV 1 hts (TBL_V mw_693 mw_694 mw_695 mw_5 mw_696) rfl rfl rfl pmX6_look ⟨Nat.le_of_ble_eq_true rfl, Nat.le_of_ble_eq_true rfl⟩) hS hA [0, 1, 2, 3, 4, 5, 6, 7, 8, 9, 10, 11, 12, 13, 14, 15] [] rfl rfl rfl rfl (by decide) rfl rfl rfl hl.1 rfl (Nat.le_of_ble_eq_true rfl) ⟨Nat.zero_le _, Nat.zero_le _⟩ dX6_search_25 rfl (fun H locs hS => ?_)
      refine lv_goto (tgt := 32) hx hb dX6_search_28 (by decide) ?_
      have e9_0 := Option.some.inj hF
      obtain ⟨f9_0, e9_1⟩ := Prod.mk.inj e9_0
      obtain ⟨f9_1, e9_2⟩ := Prod.mk.inj e9_1
      subst f9_0
      subst f9_1
      subst e9_2
      exact kret _ _ _ _ hS dX6_search_32
  unfold F_X6_search at hF
  refine lv_aload_n hx hb dX6_search_0 rfl (lv_at hl 0 rfl) ?_
  refine lv_iload_n hx hb dX6_search_1 rfl (lv_at hl 1 rfl) ?_
  refine lv_iconst (v := (nI 1)) hx hb dX6_search_2 (by decide) ?_
  refine lv_sipush (v := (nI 400)) hx hb dX6_search_3 (by decide) ?_
  replace hF := cal1_e hF
  obtain ⟨x9, hc10, hF⟩ := hF
  refine kS_i (As := [.int v1, .int (nI 1), .int (nI 400)]) (rest := [.ref h_0]) (wr := [(h_0, oX6 h_0_of h_0_kept h_0_column h_0_size h_0_hidden h_0_cell h_0_home h_0_waste h_0_stock h_0_past h_0_start h_0_known h_0_sorted h_0_row h_0_best I_0), (h_0_of, eI cI 9 (I_0 1)), (h_0_kept, eI cI 9 (I_0 2)), (h_0_column, eJ cJ 5 (L_0 0)), (h_0_size, eI cI 5 (I_0 3)), (h_0_hidden, eI cI 5 (I_0 4)), (h_0_cell, eI cI 2 (I_0 5)), (h_0_home, eI cI 4 (I_0 6)), (h_0_waste, eI cI 8 (I_0 7)), (h_0_stock, eI cI 8 (I_0 8)), (h_0_past, eJ cJ 1616 (L_0 1)), (h_0_start, eJ cJ 8 (L_0 2)), (h_0_known, eJ cJ 3216 (L_0 3)), (h_0_sorted, eJ cJ 3216 (L_0 4)), (h_0_row, eI cI 16 (I_0 9)), (h_0_best, eJ cJ 8 (L_0 5))]) (w2 := [(h_0, oX6 h_0_of h_0_kept h_0_column h_0_size h_0_hidden h_0_cell h_0_home h_0_waste h_0_stock h_0_past h_0_start h_0_known h_0_sorted h_0_row h_0_best I_0), (h_0_of, eI cI 9 (I_0 1)), (h_0_kept, eI cI 9 (I_0 2)), (h_0_column, eJ cJ 5 (L_0 0)), (h_0_size, eI cI 5 (I_0 3)), (h_0_hidden, eI cI 5 (I_0 4)), (h_0_cell, eI cI 2 (I_0 5)), (h_0_home, eI cI 4 (I_0 6)), (h_0_waste, eI cI 8 (I_0 7)), (h_0_stock, eI cI 8 (I_0 8)), (h_0_past, eJ cJ 1616 (L_0 1)), (h_0_start, eJ cJ 8 (L_0 2)), (h_0_known, eJ cJ 3216 (L_0 3)), (h_0_sorted, eJ cJ 3216 (L_0 4)), (h_0_row, eI cI 16 (I_0 9)), (h_0_best, eJ cJ 8 (L_0 5))]) hCF hK (c_X6_in l D cI cJ v1 (nI 1) (nI 400) x9 hc10) (va_cwS 3 hts (TBL_S mw_234 mw_235 mw_5 mw_236) rfl rfl rfl pmX6_in.2 ⟨Nat.le_of_ble_eq_true rfl, Nat.le_of_ble_eq_true rfl⟩) hS hA [] [0, 1, 2, 3, 4, 5, 6, 7, 8, 9, 10, 11, 12, 13, 14, 15] rfl rfl rfl rfl (by decide) rfl hl.1 rfl (Nat.le_of_ble_eq_true rfl) ⟨Nat.zero_le _, Nat.zero_le _⟩ dX6_search_6 rfl (fun H locs hS => ?_)
  refine lv_if_eq (tgt := 16) hx hb dX6_search_9 (by decide) (fun c_11 => ?_) (fun c_11 => ?_)
  · replace hF := ifp hF c_11
    refine lv_iconst (v := (nI 1)) hx hb dX6_search_16 (by decide) ?_
    exact B17 I_0 L_0 v1 (nI 1) _ _ _ hS (lv_sub hl [0, 1] rfl) hF
  · replace hF := ifn hF c_11
    refine lv_iconst (v := (nI 0)) hx hb dX6_search_12 (by decide) ?_
    refine lv_goto (tgt := 17) hx hb dX6_search_13 (by decide) ?_
    exact B17 I_0 L_0 v1 (nI 0) _ _ _ hS (lv_sub hl [0, 1] rfl) hF
