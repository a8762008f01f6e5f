/-! ===== constructors, written by program out of the bytecode ===== -/
set_option maxHeartbeats 4000000 in
set_option maxRecDepth 100000 in
theorem n_X1 (l : Launch) (D : va_G) (cI cJ : ClassId) (h_0 : Nat) : CtN l D [(cI, .int), (cJ, .long)] yX1_init wtX1_init ({ frames := 1, cells := 0, slots := 0, locals := 12 } : Room) [.ref h_0] [(h_0, .inr (1, [.int 0, .int 0, .int 0, .int 0, .int 0, .int 0, .int 0, .int 0, .int 0]))] (fun u => [(h_0, .inr (1, [.int (nI 2), .int (nI 4), .int (nI 3), .int (nI 1), .int (nI 1), .int (nI 0), .int (nI 0), .int (nI 0), .int (nI 0)]))]) 0 0 := by
  refine CtN.of (cc := cX1_init) (maxL := 1) rfl (by decide) rfl (Nat.le_of_ble_eq_true rfl) ?_
  intro p e s m args below meth c A H0 Q ls X hin hS hl kret
  have hCF := X.1
  obtain ⟨⟨hx, hb, hml, hown, hts⟩, hK, hA⟩ := X
  have hl : lv_has ls 1 [(0, .ref h_0)] := hl
  have inX1 : ∀ w ∈ u_ws RX1 TX1 9, w ∈ wtX1_init := fun w h => List.mem_cons_of_mem _ (inlX1 w h)
  have q_0 := hts (.fieldLink RX1 9 "Patiencery$Rules" "suits" "I") (List.mem_cons_of_mem _ mw_38)
  have q_1 := hts (.fieldLink RX1 15 "Patiencery$Rules" "ranks" "I") (List.mem_cons_of_mem _ mw_39)
  have q_2 := hts (.fieldLink RX1 18 "Patiencery$Rules" "columns" "I") (List.mem_cons_of_mem _ mw_40)
  have q_3 := hts (.fieldLink RX1 21 "Patiencery$Rules" "cells" "I") (List.mem_cons_of_mem _ mw_41)
  have q_4 := hts (.fieldLink RX1 24 "Patiencery$Rules" "build" "I") (List.mem_cons_of_mem _ mw_42)
  have q_5 := hts (.fieldLink RX1 27 "Patiencery$Rules" "empty" "I") (List.mem_cons_of_mem _ mw_43)
  have q_6 := hts (.fieldLink RX1 30 "Patiencery$Rules" "inStock" "I") (List.mem_cons_of_mem _ mw_44)
  have q_7 := hts (.fieldLink RX1 33 "Patiencery$Rules" "again" "I") (List.mem_cons_of_mem _ mw_45)
  have q_8 := hts (.fieldLink RX1 36 "Patiencery$Rules" "isHidden" "Z") (List.mem_cons_of_mem _ mw_46)
  refine lv_aload_n hx hb dX1_init_0 rfl (lv_at hl 0 rfl) ?_
  refine W.objInit hx hb hown (hts (.methodLink RX1 3 objectInit) (List.mem_cons_of_mem _ mw_37)) (hts (.instanceMethod objectInit) (List.mem_cons_of_mem _ mw_8)) (hts _ (List.mem_cons_of_mem _ mw_9)) rfl (by rw [hml]; exact hl.1) rfl dX1_init_1 (Nat.le_of_ble_eq_true rfl) (Nat.le_of_ble_eq_true rfl) ?_
  refine W.eq (g2 := F0 m 4 ls []) rfl ?_
  refine lv_aload_n hx hb dX1_init_4 rfl (lv_at hl 0 rfl) ?_
  refine lv_iconst (v := (nI 2)) hx hb dX1_init_5 (by decide) ?_
  refine r_put (w2 := [(h_0, .inr (1, [.int (nI 2), .int 0, .int 0, .int 0, .int 0, .int 0, .int 0, .int 0, .int 0]))]) hx hb hts inX1 tyX1 tyX1_ok nmX1 hown hK hS 0 0 rfl rfl (by decide) q_0 rfl rfl rfl (Nat.le_of_ble_eq_true rfl) dX1_init_6 rfl (fun H locs hS => ?_)
  refine lv_aload_n hx hb dX1_init_9 rfl (lv_at hl 0 rfl) ?_
  refine lv_iconst (v := (nI 4)) hx hb dX1_init_10 (by decide) ?_
  refine r_put (w2 := [(h_0, .inr (1, [.int (nI 2), .int (nI 4), .int 0, .int 0, .int 0, .int 0, .int 0, .int 0, .int 0]))]) hx hb hts inX1 tyX1 tyX1_ok nmX1 hown hK hS 0 1 rfl rfl (by decide) q_1 rfl rfl rfl (Nat.le_of_ble_eq_true rfl) dX1_init_11 rfl (fun H locs hS => ?_)
  refine lv_aload_n hx hb dX1_init_14 rfl (lv_at hl 0 rfl) ?_
  refine lv_iconst (v := (nI 3)) hx hb dX1_init_15 (by decide) ?_
  refine r_put (w2 := [(h_0, .inr (1, [.int (nI 2), .int (nI 4), .int (nI 3), .int 0, .int 0, .int 0, .int 0, .int 0, .int 0]))]) hx hb hts inX1 tyX1 tyX1_ok nmX1 hown hK hS 0 2 rfl rfl (by decide) q_2 rfl rfl rfl (Nat.le_of_ble_eq_true rfl) dX1_init_16 rfl (fun H locs hS => ?_)
  refine lv_aload_n hx hb dX1_init_19 rfl (lv_at hl 0 rfl) ?_
  refine lv_iconst (v := (nI 1)) hx hb dX1_init_20 (by decide) ?_
  refine r_put (w2 := [(h_0, .inr (1, [.int (nI 2), .int (nI 4), .int (nI 3), .int (nI 1), .int 0, .int 0, .int 0, .int 0, .int 0]))]) hx hb hts inX1 tyX1 tyX1_ok nmX1 hown hK hS 0 3 rfl rfl (by decide) q_3 rfl rfl rfl (Nat.le_of_ble_eq_true rfl) dX1_init_21 rfl (fun H locs hS => ?_)
  refine lv_aload_n hx hb dX1_init_24 rfl (lv_at hl 0 rfl) ?_
  refine lv_iconst (v := (nI 1)) hx hb dX1_init_25 (by decide) ?_
  refine r_put (w2 := [(h_0, .inr (1, [.int (nI 2), .int (nI 4), .int (nI 3), .int (nI 1), .int (nI 1), .int 0, .int 0, .int 0, .int 0]))]) hx hb hts inX1 tyX1 tyX1_ok nmX1 hown hK hS 0 4 rfl rfl (by decide) q_4 rfl rfl rfl (Nat.le_of_ble_eq_true rfl) dX1_init_26 rfl (fun H locs hS => ?_)
  refine lv_aload_n hx hb dX1_init_29 rfl (lv_at hl 0 rfl) ?_
  refine lv_iconst (v := (nI 0)) hx hb dX1_init_30 (by decide) ?_
  refine r_put (w2 := [(h_0, .inr (1, [.int (nI 2), .int (nI 4), .int (nI 3), .int (nI 1), .int (nI 1), .int (nI 0), .int 0, .int 0, .int 0]))]) hx hb hts inX1 tyX1 tyX1_ok nmX1 hown hK hS 0 5 rfl rfl (by decide) q_5 rfl rfl rfl (Nat.le_of_ble_eq_true rfl) dX1_init_31 rfl (fun H locs hS => ?_)
  refine lv_aload_n hx hb dX1_init_34 rfl (lv_at hl 0 rfl) ?_
  refine lv_iconst (v := (nI 0)) hx hb dX1_init_35 (by decide) ?_
  refine r_put (w2 := [(h_0, .inr (1, [.int (nI 2), .int (nI 4), .int (nI 3), .int (nI 1), .int (nI 1), .int (nI 0), .int (nI 0), .int 0, .int 0]))]) hx hb hts inX1 tyX1 tyX1_ok nmX1 hown hK hS 0 6 rfl rfl (by decide) q_6 rfl rfl rfl (Nat.le_of_ble_eq_true rfl) dX1_init_36 rfl (fun H locs hS => ?_)
  refine lv_aload_n hx hb dX1_init_39 rfl (lv_at hl 0 rfl) ?_
  refine lv_iconst (v := (nI 0)) hx hb dX1_init_40 (by decide) ?_
  refine r_put (w2 := [(h_0, .inr (1, [.int (nI 2), .int (nI 4), .int (nI 3), .int (nI 1), .int (nI 1), .int (nI 0), .int (nI 0), .int (nI 0), .int 0]))]) hx hb hts inX1 tyX1 tyX1_ok nmX1 hown hK hS 0 7 rfl rfl (by decide) q_7 rfl rfl rfl (Nat.le_of_ble_eq_true rfl) dX1_init_41 rfl (fun H locs hS => ?_)
  refine lv_aload_n hx hb dX1_init_44 rfl (lv_at hl 0 rfl) ?_
  refine lv_iconst (v := (nI 0)) hx hb dX1_init_45 (by decide) ?_
  refine r_put (w2 := [(h_0, .inr (1, [.int (nI 2), .int (nI 4), .int (nI 3), .int (nI 1), .int (nI 1), .int (nI 0), .int (nI 0), .int (nI 0), .int (nI 0)]))]) hx hb hts inX1 tyX1 tyX1_ok nmX1 hown hK hS 0 8 rfl rfl (by decide) q_8 rfl (by decide) (by decide) (Nat.le_of_ble_eq_true rfl) dX1_init_46 rfl (fun H locs hS => ?_)
  exact kret (fun k => [].getD k 0) _ _ _ _ hS dX1_init_49
set_option maxHeartbeats 4000000 in
set_option maxRecDepth 100000 in
theorem n_X0 (l : Launch) (D : va_G) (cI cJ : ClassId) (h_0 : Nat) : CtN l D [(cI, .int), (cJ, .long)] yX0_init wtX0_init ({ frames := 1, cells := 2, slots := 32, locals := 12 } : Room) [.ref h_0] [(h_0, .inr (0, [.null, .null]))] (fun u => [(h_0, .inr (0, [.ref (u 0), .ref (u 1)])), ((u 0), eI cI 16 (fun _ => 0)), ((u 1), eI cI 16 (fun _ => 0))]) 2 32 := by
  refine CtN.of (cc := cX0_init) (maxL := 1) rfl (by decide) rfl (Nat.le_of_ble_eq_true rfl) ?_
  intro p e s m args below meth c A H0 Q ls X hin hS hl kret
  have hCF := X.1
  obtain ⟨⟨hx, hb, hml, hown, hts⟩, hK, hA⟩ := X
  have hl : lv_has ls 1 [(0, .ref h_0)] := hl
  have inX0 : ∀ w ∈ u_ws RX0 TX0 2, w ∈ wtX0_init := fun w h => List.mem_cons_of_mem _ (inlX0 w h)
  have q_0 := hts (.fieldLink RX0 9 "Patiencery$Drawing" "row" "[I") (List.mem_cons_of_mem _ mw_87)
  have q_1 := hts (.fieldLink RX0 15 "Patiencery$Drawing" "taken" "[I") (List.mem_cons_of_mem _ mw_88)
  refine lv_aload_n hx hb dX0_init_0 rfl (lv_at hl 0 rfl) ?_
  refine W.objInit hx hb hown (hts (.methodLink RX0 3 objectInit) (List.mem_cons_of_mem _ mw_86)) (hts (.instanceMethod objectInit) (List.mem_cons_of_mem _ mw_8)) (hts _ (List.mem_cons_of_mem _ mw_9)) rfl (by rw [hml]; exact hl.1) rfl dX0_init_1 (Nat.le_of_ble_eq_true rfl) (Nat.le_of_ble_eq_true rfl) ?_
  refine W.eq (g2 := F0 m 4 ls []) rfl ?_
  refine lv_aload_n hx hb dX0_init_4 rfl (lv_at hl 0 rfl) ?_
  refine lv_bipush (v := (nI 16)) hx hb dX0_init_5 (by decide) ?_
  refine r_newI hx hb (hts (.arrayClass .int) (List.mem_cons_of_mem _ mw_52)) hK hS hA (n := 16) (by first | omega | decide) (Nat.le_of_ble_eq_true rfl) (Nat.le_of_ble_eq_true rfl) dX0_init_7 (fun q1 H hS => ?_)
  refine r_putF (w2 := [(h_0, .inr (0, [.ref q1, .null])), (q1, eI cI 16 (fun _ => 0))]) hx hb hts inX0 tyX0 tyX0_ok nmX0 hown hK hS hin 0 0 rfl rfl (by decide) q_0 rfl rfl rfl rfl (Nat.le_of_ble_eq_true rfl) dX0_init_9 rfl (fun H locs hS => ?_)
  refine lv_aload_n hx hb dX0_init_12 rfl (lv_at hl 0 rfl) ?_
  refine lv_bipush (v := (nI 16)) hx hb dX0_init_13 (by decide) ?_
  refine r_newI hx hb (hts (.arrayClass .int) (List.mem_cons_of_mem _ mw_52)) hK hS hA (n := 16) (by first | omega | decide) (Nat.le_of_ble_eq_true rfl) (Nat.le_of_ble_eq_true rfl) dX0_init_15 (fun q2 H hS => ?_)
  refine r_putF (w2 := [(h_0, .inr (0, [.ref q1, .ref q2])), (q1, eI cI 16 (fun _ => 0)), (q2, eI cI 16 (fun _ => 0))]) hx hb hts inX0 tyX0 tyX0_ok nmX0 hown hK hS hin 0 1 rfl rfl (by decide) q_1 rfl rfl rfl rfl (Nat.le_of_ble_eq_true rfl) dX0_init_17 rfl (fun H locs hS => ?_)
  exact kret (fun k => [q1, q2].getD k 0) _ _ _ _ hS dX0_init_20
set_option maxHeartbeats 4000000 in
set_option maxRecDepth 100000 in
theorem n_X3 (l : Launch) (D : va_G) (cI cJ : ClassId) (h_0 : Nat) (n : Nat) (hn : n < 1000000) : CtN l D [(cI, .int), (cJ, .long)] yX3_init wtX3_init ({ frames := 1, cells := 3, slots := (n + n + n), locals := 21 } : Room) [.ref h_0, .int (nI n)] [(h_0, .inr (3, [.null, .null, .null]))] (fun u => [(h_0, .inr (3, [.ref (u 0), .ref (u 1), .ref (u 2)])), ((u 0), eJ cJ n (fun _ => 0)), ((u 1), eJ cJ n (fun _ => 0)), ((u 2), eJ cJ n (fun _ => 0))]) 3 (n + n + n) := by
  refine CtN.of (cc := cX3_init) (maxL := 3) rfl (by decide) rfl (Nat.le_of_ble_eq_true rfl) ?_
  intro p e s m args below meth c A H0 Q ls X hin hS hl kret
  have hCF := X.1
  obtain ⟨⟨hx, hb, hml, hown, hts⟩, hK, hA⟩ := X
  have hl : lv_has ls 3 [(0, .ref h_0), (1, .int (nI n))] := hl
  have inX3 : ∀ w ∈ u_ws RX3 TX3 3, w ∈ wtX3_init := fun w h => List.mem_cons_of_mem _ (inlX3 w h)
  have q_0 := hts (.fieldLink RX3 15 "Patiencery$Shelf" "lows" "[J") (List.mem_cons_of_mem _ mw_68)
  have q_1 := hts (.fieldLink RX3 21 "Patiencery$Shelf" "highs" "[J") (List.mem_cons_of_mem _ mw_69)
  have q_2 := hts (.fieldLink RX3 24 "Patiencery$Shelf" "places" "[J") (List.mem_cons_of_mem _ mw_70)
  refine lv_aload_n hx hb dX3_init_0 rfl (lv_at hl 0 rfl) ?_
  refine W.objInit hx hb hown (hts (.methodLink RX3 3 objectInit) (List.mem_cons_of_mem _ mw_62)) (hts (.instanceMethod objectInit) (List.mem_cons_of_mem _ mw_8)) (hts _ (List.mem_cons_of_mem _ mw_9)) rfl (by rw [hml]; exact hl.1) rfl dX3_init_1 (Nat.le_of_ble_eq_true rfl) (Nat.le_of_ble_eq_true rfl) ?_
  refine W.eq (g2 := F0 m 4 ls []) rfl ?_
  refine lv_iload_n hx hb dX3_init_4 rfl (lv_at hl 1 rfl) ?_
  refine lv_iconst (v := (nI 0)) hx hb dX3_init_5 (by decide) ?_
  refine va_mmax hx hb (hml.trans hl.1.symm) hown (hts (.methodLink RX3 9 Lib.Math.max.name) (List.mem_cons_of_mem _ mw_63)) (hts (.static Lib.Math.max.name) (List.mem_cons_of_mem _ mw_64)) (hts (.initialized "java/lang/Math") (List.mem_cons_of_mem _ mw_65)) (hts (.code Lib.Math.max.name Lib.Math.max.code 2 (some .int)) (List.mem_cons_of_mem _ mw_66)) (Nat.le_of_ble_eq_true rfl) (Nat.le_of_ble_eq_true rfl) (Nat.zero_le _) (Nat.zero_le _) dX3_init_6 ?_
  rw [show (if (nI n) < (nI 0) then (nI 0) else (nI n)) = nI n from if_neg (nI_pos (by omega))]
  refine lv_istore_n (lv' := [(2, .int (nI n)), (0, .ref h_0), (1, .int (nI n))]) hx hb dX3_init_9 rfl hl (by decide) rfl (fun ls hl => ?_)
  refine lv_aload_n hx hb dX3_init_10 rfl (lv_at hl 1 rfl) ?_
  refine lv_iload_n hx hb dX3_init_11 rfl (lv_at hl 0 rfl) ?_
  refine r_newJ hx hb (hts (.arrayClass .long) (List.mem_cons_of_mem _ mw_67)) hK hS hA (n := n) (by first | omega | decide) (Nat.le_of_ble_eq_true rfl) (by show _ ≤ n + n + n; omega) dX3_init_12 (fun q1 H hS => ?_)
  refine r_putF (w2 := [(h_0, .inr (3, [.ref q1, .null, .null])), (q1, eJ cJ n (fun _ => 0))]) hx hb hts inX3 tyX3 tyX3_ok nmX3 hown hK hS hin 0 0 rfl rfl (by decide) q_0 rfl rfl rfl rfl (Nat.le_of_ble_eq_true rfl) dX3_init_14 rfl (fun H locs hS => ?_)
  refine lv_aload_n hx hb dX3_init_17 rfl (lv_at hl 1 rfl) ?_
  refine lv_iload_n hx hb dX3_init_18 rfl (lv_at hl 0 rfl) ?_
  refine r_newJ hx hb (hts (.arrayClass .long) (List.mem_cons_of_mem _ mw_67)) hK hS hA (n := n) (by first | omega | decide) (Nat.le_of_ble_eq_true rfl) (by show _ ≤ n + n + n; omega) dX3_init_19 (fun q2 H hS => ?_)
  refine r_putF (w2 := [(h_0, .inr (3, [.ref q1, .ref q2, .null])), (q1, eJ cJ n (fun _ => 0)), (q2, eJ cJ n (fun _ => 0))]) hx hb hts inX3 tyX3 tyX3_ok nmX3 hown hK hS hin 0 1 rfl rfl (by decide) q_1 rfl rfl rfl rfl (Nat.le_of_ble_eq_true rfl) dX3_init_21 rfl (fun H locs hS => ?_)
  refine lv_aload_n hx hb dX3_init_24 rfl (lv_at hl 1 rfl) ?_
  refine lv_iload_n hx hb dX3_init_25 rfl (lv_at hl 0 rfl) ?_
  refine r_newJ hx hb (hts (.arrayClass .long) (List.mem_cons_of_mem _ mw_67)) hK hS hA (n := n) (by first | omega | decide) (Nat.le_of_ble_eq_true rfl) (by show _ ≤ n + n + n; omega) dX3_init_26 (fun q3 H hS => ?_)
  refine r_putF (w2 := [(h_0, .inr (3, [.ref q1, .ref q2, .ref q3])), (q1, eJ cJ n (fun _ => 0)), (q2, eJ cJ n (fun _ => 0)), (q3, eJ cJ n (fun _ => 0))]) hx hb hts inX3 tyX3 tyX3_ok nmX3 hown hK hS hin 0 2 rfl rfl (by decide) q_2 rfl rfl rfl rfl (Nat.le_of_ble_eq_true rfl) dX3_init_28 rfl (fun H locs hS => ?_)
  refine W.widen (k := 3) (n := n + n + n) (by omega) (by omega) ?_
  exact kret (fun k => [q1, q2, q3].getD k 0) _ _ _ _ hS dX3_init_31
set_option maxHeartbeats 4000000 in
set_option maxRecDepth 100000 in
theorem n_X4 (l : Launch) (D : va_G) (cI cJ : ClassId) (h_0 : Nat) : CtN l D [(cI, .int), (cJ, .long)] yX4_init wtX4_init ({ frames := 2, cells := 4, slots := 195, locals := 32 } : Room) [.ref h_0] [(h_0, .inr (4, [.null, .null, .null, .null, .int 0, .int 0, .int 0]))] (fun u => [(h_0, .inr (4, [.ref (u 0), .ref (u 1), .ref (u 2), .ref (u 3), .int (nI 0), .int (nI 0), .int (nI 0)])), ((u 0), .inr (1, [.int (nI 2), .int (nI 4), .int (nI 3), .int (nI 1), .int (nI 1), .int (nI 0), .int (nI 0), .int (nI 0), .int (nI 0)])), ((u 1), eI cI 16 (fun _ => 0)), ((u 2), eI cI 10 (fun _ => 0)), ((u 3), eI cI 160 (fun _ => 0))]) 4 195 := by
  refine CtN.of (cc := cX4_init) (maxL := 1) rfl (by decide) rfl (Nat.le_of_ble_eq_true rfl) ?_
  intro p e s m args below meth c A H0 Q ls X hin hS hl kret
  have hCF := X.1
  obtain ⟨⟨hx, hb, hml, hown, hts⟩, hK, hA⟩ := X
  have hl : lv_has ls 1 [(0, .ref h_0)] := hl
  have inX1 : ∀ w ∈ u_ws RX1 TX1 9, w ∈ wtX4_init := fun w h => List.mem_cons_of_mem _ (inlX1 w h)
  have inX4 : ∀ w ∈ u_ws RX4 TX4 7, w ∈ wtX4_init := fun w h => List.mem_cons_of_mem _ (inlX4 w h)
  have q_0 := hts (.fieldLink RX4 12 "Patiencery$Table" "rules" "LPatiencery$Rules;") (List.mem_cons_of_mem _ mw_51)
  have q_1 := hts (.fieldLink RX4 18 "Patiencery$Table" "lies" "[I") (List.mem_cons_of_mem _ mw_53)
  have q_2 := hts (.fieldLink RX4 22 "Patiencery$Table" "tops" "[I") (List.mem_cons_of_mem _ mw_54)
  have q_3 := hts (.fieldLink RX4 25 "Patiencery$Table" "list" "[I") (List.mem_cons_of_mem _ mw_55)
  have q_4 := hts (.fieldLink RX4 28 "Patiencery$Table" "listed" "I") (List.mem_cons_of_mem _ mw_56)
  have q_5 := hts (.fieldLink RX4 32 "Patiencery$Table" "hidden" "I") (List.mem_cons_of_mem _ mw_57)
  have q_6 := hts (.fieldLink RX4 35 "Patiencery$Table" "turned" "I") (List.mem_cons_of_mem _ mw_58)
  refine lv_aload_n hx hb dX4_init_0 rfl (lv_at hl 0 rfl) ?_
  refine W.objInit hx hb hown (hts (.methodLink RX4 3 objectInit) (List.mem_cons_of_mem _ mw_49)) (hts (.instanceMethod objectInit) (List.mem_cons_of_mem _ mw_8)) (hts _ (List.mem_cons_of_mem _ mw_9)) rfl (by rw [hml]; exact hl.1) rfl dX4_init_1 (Nat.le_of_ble_eq_true rfl) (Nat.le_of_ble_eq_true rfl) ?_
  refine W.eq (g2 := F0 m 4 ls []) rfl ?_
  refine lv_aload_n hx hb dX4_init_4 rfl (lv_at hl 0 rfl) ?_
  refine r_new (ci := 1) (fs := [.int 0, .int 0, .int 0, .int 0, .int 0, .int 0, .int 0, .int 0, .int 0]) (C := RX1) (T := TX1) (N := 9) hx hb hts inX1 tyX1 tyX1_ok hown (hts (.classLink RX4 9 RX1) (List.mem_cons_of_mem _ mw_50)) (hts (.instantiable RX1 9) (List.mem_cons_of_mem _ mw_11)) (hts (.initialized RX1) (List.mem_cons_of_mem _ mw_12)) hK hS hA rfl (fun j hj => by rcases (show j = 0 ∨ j = 1 ∨ j = 2 ∨ j = 3 ∨ j = 4 ∨ j = 5 ∨ j = 6 ∨ j = 7 ∨ j = 8 by omega) with rfl | rfl | rfl | rfl | rfl | rfl | rfl | rfl | rfl <;> rfl) (Nat.le_of_ble_eq_true rfl) (Nat.le_of_ble_eq_true rfl) dX4_init_5 (fun q1 H hS => ?_)
  refine lv_dup hx hb dX4_init_8 rfl ?_
  refine kI_m (As := []) (rest := [.ref q1, .ref h_0]) (wr := [(h_0, .inr (4, [.null, .null, .null, .null, .int 0, .int 0, .int 0]))]) hCF hK (n_X1 l D cI cJ q1) ⟨va_cnB 0 hts (TBL_C mw_36) rfl rfl rfl (hK.2 _ (List.mem_of_getElem? (i := 2) rfl)) (hts (.initialized RX1) (List.mem_cons_of_mem _ mw_12)) pmX1_init.2 ⟨Nat.le_of_ble_eq_true rfl, Nat.le_of_ble_eq_true rfl⟩, rfl, hts (.instanceMethod yX1_init) (List.mem_cons_of_mem _ mw_35)⟩ hS hA [1] [0] rfl rfl rfl rfl (by decide) rfl hl.1 rfl (Nat.le_of_ble_eq_true rfl) ⟨Nat.le_of_ble_eq_true rfl, Nat.le_of_ble_eq_true rfl⟩ dX4_init_9 (fun u2 H locs hS => ?_)
  replace hS : HS D A H0 [(h_0, .inr (4, [.null, .null, .null, .null, .int 0, .int 0, .int 0])), (q1, .inr (1, [.int (nI 2), .int (nI 4), .int (nI 3), .int (nI 1), .int (nI 1), .int (nI 0), .int (nI 0), .int (nI 0), .int (nI 0)]))] H locs := hS
  refine r_put (w2 := [(h_0, .inr (4, [.ref q1, .null, .null, .null, .int 0, .int 0, .int 0])), (q1, .inr (1, [.int (nI 2), .int (nI 4), .int (nI 3), .int (nI 1), .int (nI 1), .int (nI 0), .int (nI 0), .int (nI 0), .int (nI 0)]))]) hx hb hts inX4 tyX4 tyX4_ok nmX4 hown hK hS 0 0 rfl rfl (by decide) q_0 rfl rfl rfl (Nat.le_of_ble_eq_true rfl) dX4_init_12 rfl (fun H locs hS => ?_)
  refine lv_aload_n hx hb dX4_init_15 rfl (lv_at hl 0 rfl) ?_
  refine lv_bipush (v := (nI 16)) hx hb dX4_init_16 (by decide) ?_
  refine r_newI hx hb (hts (.arrayClass .int) (List.mem_cons_of_mem _ mw_52)) hK hS hA (n := 16) (by first | omega | decide) (Nat.le_of_ble_eq_true rfl) (Nat.le_of_ble_eq_true rfl) dX4_init_18 (fun q3 H hS => ?_)
  refine r_putF (w2 := [(h_0, .inr (4, [.ref q1, .ref q3, .null, .null, .int 0, .int 0, .int 0])), (q1, .inr (1, [.int (nI 2), .int (nI 4), .int (nI 3), .int (nI 1), .int (nI 1), .int (nI 0), .int (nI 0), .int (nI 0), .int (nI 0)])), (q3, eI cI 16 (fun _ => 0))]) hx hb hts inX4 tyX4 tyX4_ok nmX4 hown hK hS hin 0 1 rfl rfl (by decide) q_1 rfl rfl rfl rfl (Nat.le_of_ble_eq_true rfl) dX4_init_20 rfl (fun H locs hS => ?_)
  refine lv_aload_n hx hb dX4_init_23 rfl (lv_at hl 0 rfl) ?_
  refine lv_bipush (v := (nI 10)) hx hb dX4_init_24 (by decide) ?_
  refine r_newI hx hb (hts (.arrayClass .int) (List.mem_cons_of_mem _ mw_52)) hK hS hA (n := 10) (by first | omega | decide) (Nat.le_of_ble_eq_true rfl) (Nat.le_of_ble_eq_true rfl) dX4_init_26 (fun q4 H hS => ?_)
  refine r_putF (w2 := [(h_0, .inr (4, [.ref q1, .ref q3, .ref q4, .null, .int 0, .int 0, .int 0])), (q1, .inr (1, [.int (nI 2), .int (nI 4), .int (nI 3), .int (nI 1), .int (nI 1), .int (nI 0), .int (nI 0), .int (nI 0), .int (nI 0)])), (q3, eI cI 16 (fun _ => 0)), (q4, eI cI 10 (fun _ => 0))]) hx hb hts inX4 tyX4 tyX4_ok nmX4 hown hK hS hin 0 2 rfl rfl (by decide) q_2 rfl rfl rfl rfl (Nat.le_of_ble_eq_true rfl) dX4_init_28 rfl (fun H locs hS => ?_)
  refine lv_aload_n hx hb dX4_init_31 rfl (lv_at hl 0 rfl) ?_
  refine lv_sipush (v := (nI 160)) hx hb dX4_init_32 (by decide) ?_
  refine r_newI hx hb (hts (.arrayClass .int) (List.mem_cons_of_mem _ mw_52)) hK hS hA (n := 160) (by first | omega | decide) (Nat.le_of_ble_eq_true rfl) (Nat.le_of_ble_eq_true rfl) dX4_init_35 (fun q5 H hS => ?_)
  refine r_putF (w2 := [(h_0, .inr (4, [.ref q1, .ref q3, .ref q4, .ref q5, .int 0, .int 0, .int 0])), (q1, .inr (1, [.int (nI 2), .int (nI 4), .int (nI 3), .int (nI 1), .int (nI 1), .int (nI 0), .int (nI 0), .int (nI 0), .int (nI 0)])), (q3, eI cI 16 (fun _ => 0)), (q4, eI cI 10 (fun _ => 0)), (q5, eI cI 160 (fun _ => 0))]) hx hb hts inX4 tyX4 tyX4_ok nmX4 hown hK hS hin 0 3 rfl rfl (by decide) q_3 rfl rfl rfl rfl (Nat.le_of_ble_eq_true rfl) dX4_init_37 rfl (fun H locs hS => ?_)
  refine lv_aload_n hx hb dX4_init_40 rfl (lv_at hl 0 rfl) ?_
  refine lv_iconst (v := (nI 0)) hx hb dX4_init_41 (by decide) ?_
  refine r_put (w2 := [(h_0, .inr (4, [.ref q1, .ref q3, .ref q4, .ref q5, .int (nI 0), .int 0, .int 0])), (q1, .inr (1, [.int (nI 2), .int (nI 4), .int (nI 3), .int (nI 1), .int (nI 1), .int (nI 0), .int (nI 0), .int (nI 0), .int (nI 0)])), (q3, eI cI 16 (fun _ => 0)), (q4, eI cI 10 (fun _ => 0)), (q5, eI cI 160 (fun _ => 0))]) hx hb hts inX4 tyX4 tyX4_ok nmX4 hown hK hS 0 4 rfl rfl (by decide) q_4 rfl rfl rfl (Nat.le_of_ble_eq_true rfl) dX4_init_42 rfl (fun H locs hS => ?_)
  refine lv_aload_n hx hb dX4_init_45 rfl (lv_at hl 0 rfl) ?_
  refine lv_iconst (v := (nI 0)) hx hb dX4_init_46 (by decide) ?_
  refine r_put (w2 := [(h_0, .inr (4, [.ref q1, .ref q3, .ref q4, .ref q5, .int (nI 0), .int (nI 0), .int 0])), (q1, .inr (1, [.int (nI 2), .int (nI 4), .int (nI 3), .int (nI 1), .int (nI 1), .int (nI 0), .int (nI 0), .int (nI 0), .int (nI 0)])), (q3, eI cI 16 (fun _ => 0)), (q4, eI cI 10 (fun _ => 0)), (q5, eI cI 160 (fun _ => 0))]) hx hb hts inX4 tyX4 tyX4_ok nmX4 hown hK hS 0 5 rfl rfl (by decide) q_5 rfl rfl rfl (Nat.le_of_ble_eq_true rfl) dX4_init_47 rfl (fun H locs hS => ?_)
  refine lv_aload_n hx hb dX4_init_50 rfl (lv_at hl 0 rfl) ?_
  refine lv_iconst (v := (nI 0)) hx hb dX4_init_51 (by decide) ?_
  refine r_put (w2 := [(h_0, .inr (4, [.ref q1, .ref q3, .ref q4, .ref q5, .int (nI 0), .int (nI 0), .int (nI 0)])), (q1, .inr (1, [.int (nI 2), .int (nI 4), .int (nI 3), .int (nI 1), .int (nI 1), .int (nI 0), .int (nI 0), .int (nI 0), .int (nI 0)])), (q3, eI cI 16 (fun _ => 0)), (q4, eI cI 10 (fun _ => 0)), (q5, eI cI 160 (fun _ => 0))]) hx hb hts inX4 tyX4 tyX4_ok nmX4 hown hK hS 0 6 rfl rfl (by decide) q_6 rfl rfl rfl (Nat.le_of_ble_eq_true rfl) dX4_init_52 rfl (fun H locs hS => ?_)
  exact kret (fun k => [q1, q3, q4, q5].getD k 0) _ _ _ _ hS dX4_init_55
set_option maxHeartbeats 4000000 in
set_option maxRecDepth 100000 in
theorem n_X2 (l : Launch) (D : va_G) (cI cJ : ClassId) (h_0 : Nat) : CtN l D [(cI, .int), (cJ, .long)] yX2_init wtX2_init ({ frames := 3, cells := 17, slots := 2668, locals := 52 } : Room) [.ref h_0] [(h_0, .inr (2, [.null, .int 0, .null, .null, .null, .null, .null]))] (fun u => [(h_0, .inr (2, [.ref (u 0), .int (nI 0), .ref (u 5), .ref (u 10), .ref (u 14), .ref (u 15), .ref (u 16)])), ((u 0), .inr (4, [.ref (u 1), .ref (u 2), .ref (u 3), .ref (u 4), .int (nI 0), .int (nI 0), .int (nI 0)])), ((u 1), .inr (1, [.int (nI 2), .int (nI 4), .int (nI 3), .int (nI 1), .int (nI 1), .int (nI 0), .int (nI 0), .int (nI 0), .int (nI 0)])), ((u 2), eI cI 16 (fun _ => 0)), ((u 3), eI cI 10 (fun _ => 0)), ((u 4), eI cI 160 (fun _ => 0)), ((u 5), .inr (4, [.ref (u 6), .ref (u 7), .ref (u 8), .ref (u 9), .int (nI 0), .int (nI 0), .int (nI 0)])), ((u 6), .inr (1, [.int (nI 2), .int (nI 4), .int (nI 3), .int (nI 1), .int (nI 1), .int (nI 0), .int (nI 0), .int (nI 0), .int (nI 0)])), ((u 7), eI cI 16 (fun _ => 0)), ((u 8), eI cI 10 (fun _ => 0)), ((u 9), eI cI 160 (fun _ => 0)), ((u 10), .inr (3, [.ref (u 11), .ref (u 12), .ref (u 13)])), ((u 11), eJ cJ 401 (fun _ => 0)), ((u 12), eJ cJ 401 (fun _ => 0)), ((u 13), eJ cJ 401 (fun _ => 0)), ((u 14), eI cI 401 (fun _ => 0)), ((u 15), eI cI 256 (fun _ => 0)), ((u 16), eI cI 401 (fun _ => 0))]) 17 2668 := by
  refine CtN.of (cc := cX2_init) (maxL := 1) rfl (by decide) rfl (Nat.le_of_ble_eq_true rfl) ?_
  intro p e s m args below meth c A H0 Q ls X hin hS hl kret
  have hCF := X.1
  obtain ⟨⟨hx, hb, hml, hown, hts⟩, hK, hA⟩ := X
  have hl : lv_has ls 1 [(0, .ref h_0)] := hl
  have inX2 : ∀ w ∈ u_ws RX2 TX2 7, w ∈ wtX2_init := fun w h => List.mem_cons_of_mem _ (inlX2 w h)
  have inX3 : ∀ w ∈ u_ws RX3 TX3 3, w ∈ wtX2_init := fun w h => List.mem_cons_of_mem _ (inlX3 w h)
  have inX4 : ∀ w ∈ u_ws RX4 TX4 7, w ∈ wtX2_init := fun w h => List.mem_cons_of_mem _ (inlX4 w h)
  have q_0 := hts (.fieldLink RX2 12 "Patiencery$Searcher" "table" "LPatiencery$Table;") (List.mem_cons_of_mem _ mw_75)
  have q_1 := hts (.fieldLink RX2 18 "Patiencery$Searcher" "count" "I") (List.mem_cons_of_mem _ mw_76)
  have q_2 := hts (.fieldLink RX2 22 "Patiencery$Searcher" "origin" "LPatiencery$Table;") (List.mem_cons_of_mem _ mw_77)
  have q_3 := hts (.fieldLink RX2 30 "Patiencery$Searcher" "shelf" "LPatiencery$Shelf;") (List.mem_cons_of_mem _ mw_79)
  have q_4 := hts (.fieldLink RX2 34 "Patiencery$Searcher" "steps" "[I") (List.mem_cons_of_mem _ mw_80)
  have q_5 := hts (.fieldLink RX2 38 "Patiencery$Searcher" "newest" "[I") (List.mem_cons_of_mem _ mw_81)
  have q_6 := hts (.fieldLink RX2 41 "Patiencery$Searcher" "older" "[I") (List.mem_cons_of_mem _ mw_82)
  refine lv_aload_n hx hb dX2_init_0 rfl (lv_at hl 0 rfl) ?_
  refine W.objInit hx hb hown (hts (.methodLink RX2 3 objectInit) (List.mem_cons_of_mem _ mw_73)) (hts (.instanceMethod objectInit) (List.mem_cons_of_mem _ mw_8)) (hts _ (List.mem_cons_of_mem _ mw_9)) rfl (by rw [hml]; exact hl.1) rfl dX2_init_1 (Nat.le_of_ble_eq_true rfl) (Nat.le_of_ble_eq_true rfl) ?_
  refine W.eq (g2 := F0 m 4 ls []) rfl ?_
  refine lv_aload_n hx hb dX2_init_4 rfl (lv_at hl 0 rfl) ?_
  refine r_new (ci := 4) (fs := [.null, .null, .null, .null, .int 0, .int 0, .int 0]) (C := RX4) (T := TX4) (N := 7) hx hb hts inX4 tyX4 tyX4_ok hown (hts (.classLink RX2 9 RX4) (List.mem_cons_of_mem _ mw_74)) (hts (.instantiable RX4 7) (List.mem_cons_of_mem _ mw_16)) (hts (.initialized RX4) (List.mem_cons_of_mem _ mw_17)) hK hS hA rfl (fun j hj => by rcases (show j = 0 ∨ j = 1 ∨ j = 2 ∨ j = 3 ∨ j = 4 ∨ j = 5 ∨ j = 6 by omega) with rfl | rfl | rfl | rfl | rfl | rfl | rfl <;> rfl) (Nat.le_of_ble_eq_true rfl) (Nat.le_of_ble_eq_true rfl) dX2_init_5 (fun q1 H hS => ?_)
  refine lv_dup hx hb dX2_init_8 rfl ?_
  refine kI_m (As := []) (rest := [.ref q1, .ref h_0]) (wr := [(h_0, .inr (2, [.null, .int 0, .null, .null, .null, .null, .null]))]) hCF hK (n_X4 l D cI cJ q1) ⟨va_cnB 0 hts (TBL_C mw_48) rfl rfl rfl (hK.2 _ (List.mem_of_getElem? (i := 4) rfl)) (hts (.initialized RX4) (List.mem_cons_of_mem _ mw_17)) pmX4_init.2 ⟨Nat.le_of_ble_eq_true rfl, Nat.le_of_ble_eq_true rfl⟩, rfl, hts (.instanceMethod yX4_init) (List.mem_cons_of_mem _ mw_47)⟩ hS hA [1] [0] rfl rfl rfl rfl (by decide) rfl hl.1 rfl (Nat.le_of_ble_eq_true rfl) ⟨Nat.le_of_ble_eq_true rfl, Nat.le_of_ble_eq_true rfl⟩ dX2_init_9 (fun u2 H locs hS => ?_)
  replace hS : HS D A H0 [(h_0, .inr (2, [.null, .int 0, .null, .null, .null, .null, .null])), (q1, .inr (4, [.ref (u2 0), .ref (u2 1), .ref (u2 2), .ref (u2 3), .int (nI 0), .int (nI 0), .int (nI 0)])), ((u2 0), .inr (1, [.int (nI 2), .int (nI 4), .int (nI 3), .int (nI 1), .int (nI 1), .int (nI 0), .int (nI 0), .int (nI 0), .int (nI 0)])), ((u2 1), eI cI 16 (fun _ => 0)), ((u2 2), eI cI 10 (fun _ => 0)), ((u2 3), eI cI 160 (fun _ => 0))] H locs := hS
  refine r_putF (w2 := [(h_0, .inr (2, [.ref q1, .int 0, .null, .null, .null, .null, .null])), (q1, .inr (4, [.ref (u2 0), .ref (u2 1), .ref (u2 2), .ref (u2 3), .int (nI 0), .int (nI 0), .int (nI 0)])), ((u2 0), .inr (1, [.int (nI 2), .int (nI 4), .int (nI 3), .int (nI 1), .int (nI 1), .int (nI 0), .int (nI 0), .int (nI 0), .int (nI 0)])), ((u2 1), eI cI 16 (fun _ => 0)), ((u2 2), eI cI 10 (fun _ => 0)), ((u2 3), eI cI 160 (fun _ => 0))]) hx hb hts inX2 tyX2 tyX2_ok nmX2 hown hK hS hin 0 0 rfl rfl (by decide) q_0 rfl rfl rfl rfl (Nat.le_of_ble_eq_true rfl) dX2_init_12 rfl (fun H locs hS => ?_)
  refine lv_aload_n hx hb dX2_init_15 rfl (lv_at hl 0 rfl) ?_
  refine lv_iconst (v := (nI 0)) hx hb dX2_init_16 (by decide) ?_
  refine r_put (w2 := [(h_0, .inr (2, [.ref q1, .int (nI 0), .null, .null, .null, .null, .null])), (q1, .inr (4, [.ref (u2 0), .ref (u2 1), .ref (u2 2), .ref (u2 3), .int (nI 0), .int (nI 0), .int (nI 0)])), ((u2 0), .inr (1, [.int (nI 2), .int (nI 4), .int (nI 3), .int (nI 1), .int (nI 1), .int (nI 0), .int (nI 0), .int (nI 0), .int (nI 0)])), ((u2 1), eI cI 16 (fun _ => 0)), ((u2 2), eI cI 10 (fun _ => 0)), ((u2 3), eI cI 160 (fun _ => 0))]) hx hb hts inX2 tyX2 tyX2_ok nmX2 hown hK hS 0 1 rfl rfl (by decide) q_1 rfl rfl rfl (Nat.le_of_ble_eq_true rfl) dX2_init_17 rfl (fun H locs hS => ?_)
  refine lv_aload_n hx hb dX2_init_20 rfl (lv_at hl 0 rfl) ?_
  refine r_new (ci := 4) (fs := [.null, .null, .null, .null, .int 0, .int 0, .int 0]) (C := RX4) (T := TX4) (N := 7) hx hb hts inX4 tyX4 tyX4_ok hown (hts (.classLink RX2 9 RX4) (List.mem_cons_of_mem _ mw_74)) (hts (.instantiable RX4 7) (List.mem_cons_of_mem _ mw_16)) (hts (.initialized RX4) (List.mem_cons_of_mem _ mw_17)) hK hS hA rfl (fun j hj => by rcases (show j = 0 ∨ j = 1 ∨ j = 2 ∨ j = 3 ∨ j = 4 ∨ j = 5 ∨ j = 6 by omega) with rfl | rfl | rfl | rfl | rfl | rfl | rfl <;> rfl) (Nat.le_of_ble_eq_true rfl) (Nat.le_of_ble_eq_true rfl) dX2_init_21 (fun q3 H hS => ?_)
  refine lv_dup hx hb dX2_init_24 rfl ?_
  refine kI_m (As := []) (rest := [.ref q3, .ref h_0]) (wr := [(h_0, .inr (2, [.ref q1, .int (nI 0), .null, .null, .null, .null, .null])), (q1, .inr (4, [.ref (u2 0), .ref (u2 1), .ref (u2 2), .ref (u2 3), .int (nI 0), .int (nI 0), .int (nI 0)])), ((u2 0), .inr (1, [.int (nI 2), .int (nI 4), .int (nI 3), .int (nI 1), .int (nI 1), .int (nI 0), .int (nI 0), .int (nI 0), .int (nI 0)])), ((u2 1), eI cI 16 (fun _ => 0)), ((u2 2), eI cI 10 (fun _ => 0)), ((u2 3), eI cI 160 (fun _ => 0))]) hCF hK (n_X4 l D cI cJ q3) ⟨va_cnB 0 hts (TBL_C mw_48) rfl rfl rfl (hK.2 _ (List.mem_of_getElem? (i := 4) rfl)) (hts (.initialized RX4) (List.mem_cons_of_mem _ mw_17)) pmX4_init.2 ⟨Nat.le_of_ble_eq_true rfl, Nat.le_of_ble_eq_true rfl⟩, rfl, hts (.instanceMethod yX4_init) (List.mem_cons_of_mem _ mw_47)⟩ hS hA [6] [0, 1, 2, 3, 4, 5] rfl rfl rfl rfl (by decide) rfl hl.1 rfl (Nat.le_of_ble_eq_true rfl) ⟨Nat.le_of_ble_eq_true rfl, Nat.le_of_ble_eq_true rfl⟩ dX2_init_25 (fun u4 H locs hS => ?_)
  replace hS : HS D A H0 [(h_0, .inr (2, [.ref q1, .int (nI 0), .null, .null, .null, .null, .null])), (q1, .inr (4, [.ref (u2 0), .ref (u2 1), .ref (u2 2), .ref (u2 3), .int (nI 0), .int (nI 0), .int (nI 0)])), ((u2 0), .inr (1, [.int (nI 2), .int (nI 4), .int (nI 3), .int (nI 1), .int (nI 1), .int (nI 0), .int (nI 0), .int (nI 0), .int (nI 0)])), ((u2 1), eI cI 16 (fun _ => 0)), ((u2 2), eI cI 10 (fun _ => 0)), ((u2 3), eI cI 160 (fun _ => 0)), (q3, .inr (4, [.ref (u4 0), .ref (u4 1), .ref (u4 2), .ref (u4 3), .int (nI 0), .int (nI 0), .int (nI 0)])), ((u4 0), .inr (1, [.int (nI 2), .int (nI 4), .int (nI 3), .int (nI 1), .int (nI 1), .int (nI 0), .int (nI 0), .int (nI 0), .int (nI 0)])), ((u4 1), eI cI 16 (fun _ => 0)), ((u4 2), eI cI 10 (fun _ => 0)), ((u4 3), eI cI 160 (fun _ => 0))] H locs := hS
  refine r_putF (w2 := [(h_0, .inr (2, [.ref q1, .int (nI 0), .ref q3, .null, .null, .null, .null])), (q1, .inr (4, [.ref (u2 0), .ref (u2 1), .ref (u2 2), .ref (u2 3), .int (nI 0), .int (nI 0), .int (nI 0)])), ((u2 0), .inr (1, [.int (nI 2), .int (nI 4), .int (nI 3), .int (nI 1), .int (nI 1), .int (nI 0), .int (nI 0), .int (nI 0), .int (nI 0)])), ((u2 1), eI cI 16 (fun _ => 0)), ((u2 2), eI cI 10 (fun _ => 0)), ((u2 3), eI cI 160 (fun _ => 0)), (q3, .inr (4, [.ref (u4 0), .ref (u4 1), .ref (u4 2), .ref (u4 3), .int (nI 0), .int (nI 0), .int (nI 0)])), ((u4 0), .inr (1, [.int (nI 2), .int (nI 4), .int (nI 3), .int (nI 1), .int (nI 1), .int (nI 0), .int (nI 0), .int (nI 0), .int (nI 0)])), ((u4 1), eI cI 16 (fun _ => 0)), ((u4 2), eI cI 10 (fun _ => 0)), ((u4 3), eI cI 160 (fun _ => 0))]) hx hb hts inX2 tyX2 tyX2_ok nmX2 hown hK hS hin 0 2 rfl rfl (by decide) q_2 rfl rfl rfl rfl (Nat.le_of_ble_eq_true rfl) dX2_init_28 rfl (fun H locs hS => ?_)
  refine lv_aload_n hx hb dX2_init_31 rfl (lv_at hl 0 rfl) ?_
  refine r_new (ci := 3) (fs := [.null, .null, .null]) (C := RX3) (T := TX3) (N := 3) hx hb hts inX3 tyX3 tyX3_ok hown (hts (.classLink RX2 25 RX3) (List.mem_cons_of_mem _ mw_78)) (hts (.instantiable RX3 3) (List.mem_cons_of_mem _ mw_20)) (hts (.initialized RX3) (List.mem_cons_of_mem _ mw_21)) hK hS hA rfl (fun j hj => by rcases (show j = 0 ∨ j = 1 ∨ j = 2 by omega) with rfl | rfl | rfl <;> rfl) (Nat.le_of_ble_eq_true rfl) (Nat.le_of_ble_eq_true rfl) dX2_init_32 (fun q5 H hS => ?_)
  refine lv_dup hx hb dX2_init_35 rfl ?_
  refine lv_sipush (v := (nI 401)) hx hb dX2_init_36 (by decide) ?_
  refine kI_n (As := [.int (nI 401)]) (rest := [.ref q5, .ref h_0]) (wr := [(h_0, .inr (2, [.ref q1, .int (nI 0), .ref q3, .null, .null, .null, .null])), (q1, .inr (4, [.ref (u2 0), .ref (u2 1), .ref (u2 2), .ref (u2 3), .int (nI 0), .int (nI 0), .int (nI 0)])), ((u2 0), .inr (1, [.int (nI 2), .int (nI 4), .int (nI 3), .int (nI 1), .int (nI 1), .int (nI 0), .int (nI 0), .int (nI 0), .int (nI 0)])), ((u2 1), eI cI 16 (fun _ => 0)), ((u2 2), eI cI 10 (fun _ => 0)), ((u2 3), eI cI 160 (fun _ => 0)), (q3, .inr (4, [.ref (u4 0), .ref (u4 1), .ref (u4 2), .ref (u4 3), .int (nI 0), .int (nI 0), .int (nI 0)])), ((u4 0), .inr (1, [.int (nI 2), .int (nI 4), .int (nI 3), .int (nI 1), .int (nI 1), .int (nI 0), .int (nI 0), .int (nI 0), .int (nI 0)])), ((u4 1), eI cI 16 (fun _ => 0)), ((u4 2), eI cI 10 (fun _ => 0)), ((u4 3), eI cI 160 (fun _ => 0))]) hCF hK (n_X3 l D cI cJ q5 401 (by decide)) (cwI 1 hts (TBL_C mw_61) rfl rfl rfl (hts (.initialized RX3) (List.mem_cons_of_mem _ mw_21)) (hts (.methodLink RX2 27 yX3_init) (List.mem_cons_of_mem _ mw_83)) (hts (.instanceMethod yX3_init) (List.mem_cons_of_mem _ mw_60)) rfl pmX3_init.2 ⟨Nat.le_of_ble_eq_true rfl, Nat.le_of_ble_eq_true rfl⟩) hS hA [11] [0, 1, 2, 3, 4, 5, 6, 7, 8, 9, 10] rfl rfl rfl rfl (by decide) rfl hl.1 rfl (Nat.le_of_ble_eq_true rfl) ⟨Nat.le_of_ble_eq_true rfl, Nat.le_of_ble_eq_true rfl⟩ dX2_init_39 (fun u6 H locs hS => ?_)
  replace hS : HS D A H0 [(h_0, .inr (2, [.ref q1, .int (nI 0), .ref q3, .null, .null, .null, .null])), (q1, .inr (4, [.ref (u2 0), .ref (u2 1), .ref (u2 2), .ref (u2 3), .int (nI 0), .int (nI 0), .int (nI 0)])), ((u2 0), .inr (1, [.int (nI 2), .int (nI 4), .int (nI 3), .int (nI 1), .int (nI 1), .int (nI 0), .int (nI 0), .int (nI 0), .int (nI 0)])), ((u2 1), eI cI 16 (fun _ => 0)), ((u2 2), eI cI 10 (fun _ => 0)), ((u2 3), eI cI 160 (fun _ => 0)), (q3, .inr (4, [.ref (u4 0), .ref (u4 1), .ref (u4 2), .ref (u4 3), .int (nI 0), .int (nI 0), .int (nI 0)])), ((u4 0), .inr (1, [.int (nI 2), .int (nI 4), .int (nI 3), .int (nI 1), .int (nI 1), .int (nI 0), .int (nI 0), .int (nI 0), .int (nI 0)])), ((u4 1), eI cI 16 (fun _ => 0)), ((u4 2), eI cI 10 (fun _ => 0)), ((u4 3), eI cI 160 (fun _ => 0)), (q5, .inr (3, [.ref (u6 0), .ref (u6 1), .ref (u6 2)])), ((u6 0), eJ cJ 401 (fun _ => 0)), ((u6 1), eJ cJ 401 (fun _ => 0)), ((u6 2), eJ cJ 401 (fun _ => 0))] H locs := hS
  refine r_putF (w2 := [(h_0, .inr (2, [.ref q1, .int (nI 0), .ref q3, .ref q5, .null, .null, .null])), (q1, .inr (4, [.ref (u2 0), .ref (u2 1), .ref (u2 2), .ref (u2 3), .int (nI 0), .int (nI 0), .int (nI 0)])), ((u2 0), .inr (1, [.int (nI 2), .int (nI 4), .int (nI 3), .int (nI 1), .int (nI 1), .int (nI 0), .int (nI 0), .int (nI 0), .int (nI 0)])), ((u2 1), eI cI 16 (fun _ => 0)), ((u2 2), eI cI 10 (fun _ => 0)), ((u2 3), eI cI 160 (fun _ => 0)), (q3, .inr (4, [.ref (u4 0), .ref (u4 1), .ref (u4 2), .ref (u4 3), .int (nI 0), .int (nI 0), .int (nI 0)])), ((u4 0), .inr (1, [.int (nI 2), .int (nI 4), .int (nI 3), .int (nI 1), .int (nI 1), .int (nI 0), .int (nI 0), .int (nI 0), .int (nI 0)])), ((u4 1), eI cI 16 (fun _ => 0)), ((u4 2), eI cI 10 (fun _ => 0)), ((u4 3), eI cI 160 (fun _ => 0)), (q5, .inr (3, [.ref (u6 0), .ref (u6 1), .ref (u6 2)])), ((u6 0), eJ cJ 401 (fun _ => 0)), ((u6 1), eJ cJ 401 (fun _ => 0)), ((u6 2), eJ cJ 401 (fun _ => 0))]) hx hb hts inX2 tyX2 tyX2_ok nmX2 hown hK hS hin 0 3 rfl rfl (by decide) q_3 rfl rfl rfl rfl (Nat.le_of_ble_eq_true rfl) dX2_init_42 rfl (fun H locs hS => ?_)
  refine lv_aload_n hx hb dX2_init_45 rfl (lv_at hl 0 rfl) ?_
  refine lv_sipush (v := (nI 401)) hx hb dX2_init_46 (by decide) ?_
  refine r_newI hx hb (hts (.arrayClass .int) (List.mem_cons_of_mem _ mw_52)) hK hS hA (n := 401) (by first | omega | decide) (Nat.le_of_ble_eq_true rfl) (Nat.le_of_ble_eq_true rfl) dX2_init_49 (fun q7 H hS => ?_)
  refine r_putF (w2 := [(h_0, .inr (2, [.ref q1, .int (nI 0), .ref q3, .ref q5, .ref q7, .null, .null])), (q1, .inr (4, [.ref (u2 0), .ref (u2 1), .ref (u2 2), .ref (u2 3), .int (nI 0), .int (nI 0), .int (nI 0)])), ((u2 0), .inr (1, [.int (nI 2), .int (nI 4), .int (nI 3), .int (nI 1), .int (nI 1), .int (nI 0), .int (nI 0), .int (nI 0), .int (nI 0)])), ((u2 1), eI cI 16 (fun _ => 0)), ((u2 2), eI cI 10 (fun _ => 0)), ((u2 3), eI cI 160 (fun _ => 0)), (q3, .inr (4, [.ref (u4 0), .ref (u4 1), .ref (u4 2), .ref (u4 3), .int (nI 0), .int (nI 0), .int (nI 0)])), ((u4 0), .inr (1, [.int (nI 2), .int (nI 4), .int (nI 3), .int (nI 1), .int (nI 1), .int (nI 0), .int (nI 0), .int (nI 0), .int (nI 0)])), ((u4 1), eI cI 16 (fun _ => 0)), ((u4 2), eI cI 10 (fun _ => 0)), ((u4 3), eI cI 160 (fun _ => 0)), (q5, .inr (3, [.ref (u6 0), .ref (u6 1), .ref (u6 2)])), ((u6 0), eJ cJ 401 (fun _ => 0)), ((u6 1), eJ cJ 401 (fun _ => 0)), ((u6 2), eJ cJ 401 (fun _ => 0)), (q7, eI cI 401 (fun _ => 0))]) hx hb hts inX2 tyX2 tyX2_ok nmX2 hown hK hS hin 0 4 rfl rfl (by decide) q_4 rfl rfl rfl rfl (Nat.le_of_ble_eq_true rfl) dX2_init_51 rfl (fun H locs hS => ?_)
  refine lv_aload_n hx hb dX2_init_54 rfl (lv_at hl 0 rfl) ?_
  refine lv_sipush (v := (nI 256)) hx hb dX2_init_55 (by decide) ?_
  refine r_newI hx hb (hts (.arrayClass .int) (List.mem_cons_of_mem _ mw_52)) hK hS hA (n := 256) (by first | omega | decide) (Nat.le_of_ble_eq_true rfl) (Nat.le_of_ble_eq_true rfl) dX2_init_58 (fun q8 H hS => ?_)
  refine r_putF (w2 := [(h_0, .inr (2, [.ref q1, .int (nI 0), .ref q3, .ref q5, .ref q7, .ref q8, .null])), (q1, .inr (4, [.ref (u2 0), .ref (u2 1), .ref (u2 2), .ref (u2 3), .int (nI 0), .int (nI 0), .int (nI 0)])), ((u2 0), .inr (1, [.int (nI 2), .int (nI 4), .int (nI 3), .int (nI 1), .int (nI 1), .int (nI 0), .int (nI 0), .int (nI 0), .int (nI 0)])), ((u2 1), eI cI 16 (fun _ => 0)), ((u2 2), eI cI 10 (fun _ => 0)), ((u2 3), eI cI 160 (fun _ => 0)), (q3, .inr (4, [.ref (u4 0), .ref (u4 1), .ref (u4 2), .ref (u4 3), .int (nI 0), .int (nI 0), .int (nI 0)])), ((u4 0), .inr (1, [.int (nI 2), .int (nI 4), .int (nI 3), .int (nI 1), .int (nI 1), .int (nI 0), .int (nI 0), .int (nI 0), .int (nI 0)])), ((u4 1), eI cI 16 (fun _ => 0)), ((u4 2), eI cI 10 (fun _ => 0)), ((u4 3), eI cI 160 (fun _ => 0)), (q5, .inr (3, [.ref (u6 0), .ref (u6 1), .ref (u6 2)])), ((u6 0), eJ cJ 401 (fun _ => 0)), ((u6 1), eJ cJ 401 (fun _ => 0)), ((u6 2), eJ cJ 401 (fun _ => 0)), (q7, eI cI 401 (fun _ => 0)), (q8, eI cI 256 (fun _ => 0))]) hx hb hts inX2 tyX2 tyX2_ok nmX2 hown hK hS hin 0 5 rfl rfl (by decide) q_5 rfl rfl rfl rfl (Nat.le_of_ble_eq_true rfl) dX2_init_60 rfl (fun H locs hS => ?_)
  refine lv_aload_n hx hb dX2_init_63 rfl (lv_at hl 0 rfl) ?_
  refine lv_sipush (v := (nI 401)) hx hb dX2_init_64 (by decide) ?_
  refine r_newI hx hb (hts (.arrayClass .int) (List.mem_cons_of_mem _ mw_52)) hK hS hA (n := 401) (by first | omega | decide) (Nat.le_of_ble_eq_true rfl) (Nat.le_of_ble_eq_true rfl) dX2_init_67 (fun q9 H hS => ?_)
  refine r_putF (w2 := [(h_0, .inr (2, [.ref q1, .int (nI 0), .ref q3, .ref q5, .ref q7, .ref q8, .ref q9])), (q1, .inr (4, [.ref (u2 0), .ref (u2 1), .ref (u2 2), .ref (u2 3), .int (nI 0), .int (nI 0), .int (nI 0)])), ((u2 0), .inr (1, [.int (nI 2), .int (nI 4), .int (nI 3), .int (nI 1), .int (nI 1), .int (nI 0), .int (nI 0), .int (nI 0), .int (nI 0)])), ((u2 1), eI cI 16 (fun _ => 0)), ((u2 2), eI cI 10 (fun _ => 0)), ((u2 3), eI cI 160 (fun _ => 0)), (q3, .inr (4, [.ref (u4 0), .ref (u4 1), .ref (u4 2), .ref (u4 3), .int (nI 0), .int (nI 0), .int (nI 0)])), ((u4 0), .inr (1, [.int (nI 2), .int (nI 4), .int (nI 3), .int (nI 1), .int (nI 1), .int (nI 0), .int (nI 0), .int (nI 0), .int (nI 0)])), ((u4 1), eI cI 16 (fun _ => 0)), ((u4 2), eI cI 10 (fun _ => 0)), ((u4 3), eI cI 160 (fun _ => 0)), (q5, .inr (3, [.ref (u6 0), .ref (u6 1), .ref (u6 2)])), ((u6 0), eJ cJ 401 (fun _ => 0)), ((u6 1), eJ cJ 401 (fun _ => 0)), ((u6 2), eJ cJ 401 (fun _ => 0)), (q7, eI cI 401 (fun _ => 0)), (q8, eI cI 256 (fun _ => 0)), (q9, eI cI 401 (fun _ => 0))]) hx hb hts inX2 tyX2 tyX2_ok nmX2 hown hK hS hin 0 6 rfl rfl (by decide) q_6 rfl rfl rfl rfl (Nat.le_of_ble_eq_true rfl) dX2_init_69 rfl (fun H locs hS => ?_)
  exact kret (fun k => [q1, (u2 0), (u2 1), (u2 2), (u2 3), q3, (u4 0), (u4 1), (u4 2), (u4 3), q5, (u6 0), (u6 1), (u6 2), q7, q8, q9].getD k 0) _ _ _ _ hS dX2_init_72
