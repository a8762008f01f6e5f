/-! ===== act: further cases, its entry; written by program ===== -/
set_option maxHeartbeats 4000000 in
set_option maxRecDepth 100000 in
theorem act_550_0 {Z : AS} {v e3 od much other : Int32} (h_552 : od = 0) : ActGo Z v e3 od much other 550 (ansA (aUndo Z ((nI 1) + (lowV (v >>> ((nI 9) &&& 31)) (nI 3))))) ((aUndo Z ((nI 1) + (lowV (v >>> ((nI 9) &&& 31)) (nI 3)))).2.2) := by
  intro p l e s m9 args below meth c D cI cJ A H0 Q9 a u H locs ls X hfl hE hZ9 hu hS hl kret
  have hCF := X.1
  obtain ⟨⟨hx, hb, hml, hown, hts⟩, hK, hA⟩ := X
  refine lv_aload_n hx hb dL_act_550 rfl (lv_at hl 5 rfl) ?_
  refine lv_iload_n hx hb dL_act_551 rfl (lv_at hl 2 rfl) ?_
  refine lv_if_eq (tgt := 560) hx hb dL_act_552 (by decide) (fun _ => ?_) (fun c1 => absurd h_552 c1)
  refine lv_iconst (v := (nI 1)) hx hb dL_act_560 (by decide) ?_
  refine lv_iload_n hx hb dL_act_561 rfl (lv_at hl 4 rfl) ?_
  refine lv_bipush (v := (nI 9)) hx hb dL_act_562 (by decide) ?_
  refine lv_ishr hx hb dL_act_564 ?_
  refine lv_iconst (v := (nI 3)) hx hb dL_act_565 (by decide) ?_
  refine kS0 (As := [.int (v >>> ((nI 9) &&& 31)), .int (nI 3)]) (rest := [.int (nI 1), .ref (a 0)]) hCF hK (c_low l D _ (v >>> ((nI 9) &&& 31)) (nI 3) (by decide)) (va_cwS 2 hts (TBL_S mw_157 mw_158 mw_152 mw_159) rfl rfl rfl pmL_low.2 ⟨Nat.le_of_ble_eq_true rfl, Nat.le_of_ble_eq_true rfl⟩) hS hA rfl hl.1 rfl (Nat.le_of_ble_eq_true rfl) ⟨Nat.le_of_ble_eq_true rfl, Nat.le_of_ble_eq_true rfl⟩ dL_act_566 (fun H locs hS => ?_)
  refine lv_iadd hx hb dL_act_569 ?_
  refine kU (As := [.ref (a 0), .int ((nI 1) + (lowV (v >>> ((nI 9) &&& 31)) (nI 3)))]) (rest := []) hCF hK hE hZ9 (hA_undo l D cI cJ hfl a hu ((nI 1) + (lowV (v >>> ((nI 9) &&& 31)) (nI 3)))) (vx_cwSW 2 hts (TBL_SWc mw_363 mw_364 mw_152 mw_365) rfl rfl rfl pmL_undo.2 ⟨Nat.le_of_ble_eq_true rfl, Nat.le_of_ble_eq_true rfl⟩) hS hA rfl hl.1 rfl (Nat.le_of_ble_eq_true rfl) ⟨Nat.le_of_ble_eq_true rfl, Nat.le_of_ble_eq_true rfl⟩ dL_act_570 (fun H locs u hu hS => ?_)
  refine W.widen (k := 2) (n := 12) (Nat.le_of_ble_eq_true rfl) (Nat.le_of_ble_eq_true rfl) ?_
  rw [List.append_nil] at hS
  exact kret _ _ _ _ _ u rfl hu hS dL_act_573
set_option maxHeartbeats 4000000 in
set_option maxRecDepth 100000 in
theorem act_550_1 {Z : AS} {v e3 od much other : Int32} (h_552 : ¬ (od = 0)) : ActGo Z v e3 od much other 550 (ansA (aUndo Z much)) ((aUndo Z much).2.2) := by
  intro p l e s m9 args below meth c D cI cJ A H0 Q9 a u H locs ls X hfl hE hZ9 hu hS hl kret
  have hCF := X.1
  obtain ⟨⟨hx, hb, hml, hown, hts⟩, hK, hA⟩ := X
  refine lv_aload_n hx hb dL_act_550 rfl (lv_at hl 5 rfl) ?_
  refine lv_iload_n hx hb dL_act_551 rfl (lv_at hl 2 rfl) ?_
  refine lv_if_eq (tgt := 560) hx hb dL_act_552 (by decide) (fun c1 => absurd c1 h_552) (fun _ => ?_)
  refine lv_iload hx hb dL_act_555 (lv_at hl 1 rfl) ?_
  refine lv_goto (tgt := 570) hx hb dL_act_557 (by decide) ?_
  refine kU (As := [.ref (a 0), .int much]) (rest := []) hCF hK hE hZ9 (hA_undo l D cI cJ hfl a hu much) (vx_cwSW 2 hts (TBL_SWc mw_363 mw_364 mw_152 mw_365) rfl rfl rfl pmL_undo.2 ⟨Nat.le_of_ble_eq_true rfl, Nat.le_of_ble_eq_true rfl⟩) hS hA rfl hl.1 rfl (Nat.le_of_ble_eq_true rfl) ⟨Nat.le_of_ble_eq_true rfl, Nat.le_of_ble_eq_true rfl⟩ dL_act_570 (fun H locs u hu hS => ?_)
  refine W.widen (k := 2) (n := 12) (Nat.le_of_ble_eq_true rfl) (Nat.le_of_ble_eq_true rfl) ?_
  rw [List.append_nil] at hS
  exact kret _ _ _ _ _ u rfl hu hS dL_act_573
theorem actc_550 {Z : AS} (hA : okA Z) (v e3 od much other : Int32) : ∃ (r : Int32) (Z2 : AS), (r = -99999999 → Z2 = Z) ∧ ActGo Z v e3 od much other 550 r Z2 := by
  by_cases h_552 : od = 0
  · exact ⟨_, _, an_undo hA _, act_550_0 h_552⟩
  · exact ⟨_, _, an_undo hA _, act_550_1 h_552⟩
set_option maxHeartbeats 4000000 in
set_option maxRecDepth 100000 in
theorem act_574_0 {Z : AS} {v e3 od much other : Int32}  : ActGo Z v e3 od much other 574 ((aSafe Z).2.1) ((aSafe Z).2.2) := by
  intro p l e s m9 args below meth c D cI cJ A H0 Q9 a u H locs ls X hfl hE hZ9 hu hS hl kret
  have hCF := X.1
  obtain ⟨⟨hx, hb, hml, hown, hts⟩, hK, hA⟩ := X
  refine lv_aload_n hx hb dL_act_574 rfl (lv_at hl 5 rfl) ?_
  refine dX_safe hCF hK hA (cwV 0 hts (TBL_V mw_384 mw_385 mw_386 mw_2 mw_387) rfl rfl rfl pmX5_safe ⟨Nat.le_of_ble_eq_true rfl, Nat.le_of_ble_eq_true rfl⟩) hu hS hl.1 (Nat.le_of_ble_eq_true rfl) ⟨Nat.le_of_ble_eq_true rfl, Nat.le_of_ble_eq_true rfl⟩ dL_act_575 (fun H locs u hu hS => ?_)
  refine W.widen (k := 2) (n := 12) (Nat.le_of_ble_eq_true rfl) (Nat.le_of_ble_eq_true rfl) ?_
  rw [List.append_nil] at hS
  exact kret _ _ _ _ _ u rfl hu hS dL_act_578
theorem actc_574 {Z : AS} (hA : okA Z) (v e3 od much other : Int32) : ∃ (r : Int32) (Z2 : AS), (r = -99999999 → Z2 = Z) ∧ ActGo Z v e3 od much other 574 r Z2 := by
  exact ⟨_, _, an_safe, act_574_0 ⟩
set_option maxHeartbeats 4000000 in
set_option maxRecDepth 100000 in
theorem act_579_0 {Z : AS} {v e3 od much other : Int32} (h_581 : od = 0) : ActGo Z v e3 od much other 579 (ansA (aMoveAt Z (lowV (v >>> ((nI 9) &&& 31)) (nI 12)))) Z := by
  intro p l e s m9 args below meth c D cI cJ A H0 Q9 a u H locs ls X hfl hE hZ9 hu hS hl kret
  have hCF := X.1
  obtain ⟨⟨hx, hb, hml, hown, hts⟩, hK, hA⟩ := X
  refine lv_aload_n hx hb dL_act_579 rfl (lv_at hl 5 rfl) ?_
  refine lv_iload_n hx hb dL_act_580 rfl (lv_at hl 2 rfl) ?_
  refine lv_if_eq (tgt := 589) hx hb dL_act_581 (by decide) (fun _ => ?_) (fun c1 => absurd h_581 c1)
  refine lv_iload_n hx hb dL_act_589 rfl (lv_at hl 4 rfl) ?_
  refine lv_bipush (v := (nI 9)) hx hb dL_act_590 (by decide) ?_
  refine lv_ishr hx hb dL_act_592 ?_
  refine lv_bipush (v := (nI 12)) hx hb dL_act_593 (by decide) ?_
  refine kS0 (As := [.int (v >>> ((nI 9) &&& 31)), .int (nI 12)]) (rest := [.ref (a 0)]) hCF hK (c_low l D _ (v >>> ((nI 9) &&& 31)) (nI 12) (by decide)) (va_cwS 2 hts (TBL_S mw_157 mw_158 mw_152 mw_159) rfl rfl rfl pmL_low.2 ⟨Nat.le_of_ble_eq_true rfl, Nat.le_of_ble_eq_true rfl⟩) hS hA rfl hl.1 rfl (Nat.le_of_ble_eq_true rfl) ⟨Nat.le_of_ble_eq_true rfl, Nat.le_of_ble_eq_true rfl⟩ dL_act_595 (fun H locs hS => ?_)
  refine kU (As := [.ref (a 0), .int (lowV (v >>> ((nI 9) &&& 31)) (nI 12))]) (rest := []) hCF hK hE hZ9 (hA_moveAt l D cI cJ hfl a hu (lowV (v >>> ((nI 9) &&& 31)) (nI 12))) (vx_cwSW 2 hts (TBL_SWc mw_396 mw_397 mw_152 mw_398) rfl rfl rfl pmL_moveAt.2 ⟨Nat.le_of_ble_eq_true rfl, Nat.le_of_ble_eq_true rfl⟩) hS hA rfl hl.1 rfl (Nat.le_of_ble_eq_true rfl) ⟨Nat.le_of_ble_eq_true rfl, Nat.le_of_ble_eq_true rfl⟩ dL_act_598 (fun H locs u hu hS => ?_)
  refine W.widen (k := 2) (n := 12) (Nat.le_of_ble_eq_true rfl) (Nat.le_of_ble_eq_true rfl) ?_
  rw [List.append_nil] at hS
  exact kret _ _ _ _ _ u rfl hu hS dL_act_601
set_option maxHeartbeats 4000000 in
set_option maxRecDepth 100000 in
theorem act_579_1 {Z : AS} {v e3 od much other : Int32} (h_581 : ¬ (od = 0)) : ActGo Z v e3 od much other 579 (ansA (aMoveAt Z much)) Z := by
  intro p l e s m9 args below meth c D cI cJ A H0 Q9 a u H locs ls X hfl hE hZ9 hu hS hl kret
  have hCF := X.1
  obtain ⟨⟨hx, hb, hml, hown, hts⟩, hK, hA⟩ := X
  refine lv_aload_n hx hb dL_act_579 rfl (lv_at hl 5 rfl) ?_
  refine lv_iload_n hx hb dL_act_580 rfl (lv_at hl 2 rfl) ?_
  refine lv_if_eq (tgt := 589) hx hb dL_act_581 (by decide) (fun c1 => absurd c1 h_581) (fun _ => ?_)
  refine lv_iload hx hb dL_act_584 (lv_at hl 1 rfl) ?_
  refine lv_goto (tgt := 598) hx hb dL_act_586 (by decide) ?_
  refine kU (As := [.ref (a 0), .int much]) (rest := []) hCF hK hE hZ9 (hA_moveAt l D cI cJ hfl a hu much) (vx_cwSW 2 hts (TBL_SWc mw_396 mw_397 mw_152 mw_398) rfl rfl rfl pmL_moveAt.2 ⟨Nat.le_of_ble_eq_true rfl, Nat.le_of_ble_eq_true rfl⟩) hS hA rfl hl.1 rfl (Nat.le_of_ble_eq_true rfl) ⟨Nat.le_of_ble_eq_true rfl, Nat.le_of_ble_eq_true rfl⟩ dL_act_598 (fun H locs u hu hS => ?_)
  refine W.widen (k := 2) (n := 12) (Nat.le_of_ble_eq_true rfl) (Nat.le_of_ble_eq_true rfl) ?_
  rw [List.append_nil] at hS
  exact kret _ _ _ _ _ u rfl hu hS dL_act_601
theorem actc_579 {Z : AS} (hA : okA Z) (v e3 od much other : Int32) : ∃ (r : Int32) (Z2 : AS), (r = -99999999 → Z2 = Z) ∧ ActGo Z v e3 od much other 579 r Z2 := by
  by_cases h_581 : od = 0
  · exact ⟨_, _, fun _ => rfl, act_579_0 h_581⟩
  · exact ⟨_, _, fun _ => rfl, act_579_1 h_581⟩
set_option maxHeartbeats 4000000 in
set_option maxRecDepth 100000 in
theorem act_602_0 {Z : AS} {v e3 od much other : Int32} (h_606 : (e3 - e3 / (nI 7) * (nI 7)) = 0) (h_611 : od = 0) : ActGo Z v e3 od much other 602 (ansA (aSearch Z ((nI 1) + (lowV (v >>> ((nI 9) &&& 31)) (nI 40))))) Z := by
  intro p l e s m9 args below meth c D cI cJ A H0 Q9 a u H locs ls X hfl hE hZ9 hu hS hl kret
  have hCF := X.1
  obtain ⟨⟨hx, hb, hml, hown, hts⟩, hK, hA⟩ := X
  refine lv_iload_n hx hb dL_act_602 rfl (lv_at hl 3 rfl) ?_
  refine lv_bipush (v := (nI 7)) hx hb dL_act_603 (by decide) ?_
  refine lv_irem hx hb dL_act_605 (by decide) ?_
  refine lv_if_ne (tgt := 636) hx hb dL_act_606 (by decide) (fun c1 => absurd h_606 c1) (fun _ => ?_)
  refine lv_aload_n hx hb dL_act_609 rfl (lv_at hl 5 rfl) ?_
  refine lv_iload_n hx hb dL_act_610 rfl (lv_at hl 2 rfl) ?_
  refine lv_if_eq (tgt := 619) hx hb dL_act_611 (by decide) (fun _ => ?_) (fun c1 => absurd h_611 c1)
  refine lv_iconst (v := (nI 1)) hx hb dL_act_619 (by decide) ?_
  refine lv_iload_n hx hb dL_act_620 rfl (lv_at hl 4 rfl) ?_
  refine lv_bipush (v := (nI 9)) hx hb dL_act_621 (by decide) ?_
  refine lv_ishr hx hb dL_act_623 ?_
  refine lv_bipush (v := (nI 40)) hx hb dL_act_624 (by decide) ?_
  refine kS0 (As := [.int (v >>> ((nI 9) &&& 31)), .int (nI 40)]) (rest := [.int (nI 1), .ref (a 0)]) hCF hK (c_low l D _ (v >>> ((nI 9) &&& 31)) (nI 40) (by decide)) (va_cwS 2 hts (TBL_S mw_157 mw_158 mw_152 mw_159) rfl rfl rfl pmL_low.2 ⟨Nat.le_of_ble_eq_true rfl, Nat.le_of_ble_eq_true rfl⟩) hS hA rfl hl.1 rfl (Nat.le_of_ble_eq_true rfl) ⟨Nat.le_of_ble_eq_true rfl, Nat.le_of_ble_eq_true rfl⟩ dL_act_626 (fun H locs hS => ?_)
  refine lv_iadd hx hb dL_act_629 ?_
  refine kU (As := [.ref (a 0), .int ((nI 1) + (lowV (v >>> ((nI 9) &&& 31)) (nI 40)))]) (rest := []) hCF hK hE hZ9 (hA_search l D cI cJ hfl a hu ((nI 1) + (lowV (v >>> ((nI 9) &&& 31)) (nI 40)))) (vx_cwSW 2 hts (TBL_SWc mw_400 mw_401 mw_152 mw_402) rfl rfl rfl pmL_search.2 ⟨Nat.le_of_ble_eq_true rfl, Nat.le_of_ble_eq_true rfl⟩) hS hA rfl hl.1 rfl (Nat.le_of_ble_eq_true rfl) ⟨Nat.le_of_ble_eq_true rfl, Nat.le_of_ble_eq_true rfl⟩ dL_act_630 (fun H locs u hu hS => ?_)
  refine lv_goto (tgt := 640) hx hb dL_act_633 (by decide) ?_
  refine W.widen (k := 2) (n := 12) (Nat.le_of_ble_eq_true rfl) (Nat.le_of_ble_eq_true rfl) ?_
  rw [List.append_nil] at hS
  exact kret _ _ _ _ _ u rfl hu hS dL_act_640
set_option maxHeartbeats 4000000 in
set_option maxRecDepth 100000 in
theorem act_602_1 {Z : AS} {v e3 od much other : Int32} (h_606 : (e3 - e3 / (nI 7) * (nI 7)) = 0) (h_611 : ¬ (od = 0)) : ActGo Z v e3 od much other 602 (ansA (aSearch Z much)) Z := by
  intro p l e s m9 args below meth c D cI cJ A H0 Q9 a u H locs ls X hfl hE hZ9 hu hS hl kret
  have hCF := X.1
  obtain ⟨⟨hx, hb, hml, hown, hts⟩, hK, hA⟩ := X
  refine lv_iload_n hx hb dL_act_602 rfl (lv_at hl 3 rfl) ?_
  refine lv_bipush (v := (nI 7)) hx hb dL_act_603 (by decide) ?_
  refine lv_irem hx hb dL_act_605 (by decide) ?_
  refine lv_if_ne (tgt := 636) hx hb dL_act_606 (by decide) (fun c1 => absurd h_606 c1) (fun _ => ?_)
  refine lv_aload_n hx hb dL_act_609 rfl (lv_at hl 5 rfl) ?_
  refine lv_iload_n hx hb dL_act_610 rfl (lv_at hl 2 rfl) ?_
  refine lv_if_eq (tgt := 619) hx hb dL_act_611 (by decide) (fun c1 => absurd c1 h_611) (fun _ => ?_)
  refine lv_iload hx hb dL_act_614 (lv_at hl 1 rfl) ?_
  refine lv_goto (tgt := 630) hx hb dL_act_616 (by decide) ?_
  refine kU (As := [.ref (a 0), .int much]) (rest := []) hCF hK hE hZ9 (hA_search l D cI cJ hfl a hu much) (vx_cwSW 2 hts (TBL_SWc mw_400 mw_401 mw_152 mw_402) rfl rfl rfl pmL_search.2 ⟨Nat.le_of_ble_eq_true rfl, Nat.le_of_ble_eq_true rfl⟩) hS hA rfl hl.1 rfl (Nat.le_of_ble_eq_true rfl) ⟨Nat.le_of_ble_eq_true rfl, Nat.le_of_ble_eq_true rfl⟩ dL_act_630 (fun H locs u hu hS => ?_)
  refine lv_goto (tgt := 640) hx hb dL_act_633 (by decide) ?_
  refine W.widen (k := 2) (n := 12) (Nat.le_of_ble_eq_true rfl) (Nat.le_of_ble_eq_true rfl) ?_
  rw [List.append_nil] at hS
  exact kret _ _ _ _ _ u rfl hu hS dL_act_640
set_option maxHeartbeats 4000000 in
set_option maxRecDepth 100000 in
theorem act_602_2 {Z : AS} {v e3 od much other : Int32} (h_606 : ¬ ((e3 - e3 / (nI 7) * (nI 7)) = 0)) : ActGo Z v e3 od much other 602 ((aMoves Z).2.1) Z := by
  intro p l e s m9 args below meth c D cI cJ A H0 Q9 a u H locs ls X hfl hE hZ9 hu hS hl kret
  have hCF := X.1
  obtain ⟨⟨hx, hb, hml, hown, hts⟩, hK, hA⟩ := X
  refine lv_iload_n hx hb dL_act_602 rfl (lv_at hl 3 rfl) ?_
  refine lv_bipush (v := (nI 7)) hx hb dL_act_603 (by decide) ?_
  refine lv_irem hx hb dL_act_605 (by decide) ?_
  refine lv_if_ne (tgt := 636) hx hb dL_act_606 (by decide) (fun _ => ?_) (fun c1 => absurd c1 h_606)
  refine lv_aload_n hx hb dL_act_636 rfl (lv_at hl 5 rfl) ?_
  refine dX_moves hCF hK hA (cwV 0 hts (TBL_V mw_234 mw_235 mw_236 mw_2 mw_237) rfl rfl rfl pmX5_moves ⟨Nat.le_of_ble_eq_true rfl, Nat.le_of_ble_eq_true rfl⟩) hu hS hl.1 (Nat.le_of_ble_eq_true rfl) ⟨Nat.le_of_ble_eq_true rfl, Nat.le_of_ble_eq_true rfl⟩ dL_act_637 (fun H locs u hu hS => ?_)
  refine W.widen (k := 2) (n := 12) (Nat.le_of_ble_eq_true rfl) (Nat.le_of_ble_eq_true rfl) ?_
  rw [List.append_nil] at hS
  exact kret _ _ _ _ _ u rfl hu hS dL_act_640
theorem actc_602 {Z : AS} (hA : okA Z) (v e3 od much other : Int32) : ∃ (r : Int32) (Z2 : AS), (r = -99999999 → Z2 = Z) ∧ ActGo Z v e3 od much other 602 r Z2 := by
  by_cases h_606 : (e3 - e3 / (nI 7) * (nI 7)) = 0
  · by_cases h_611 : od = 0
    · exact ⟨_, _, fun _ => rfl, act_602_0 h_606 h_611⟩
    · exact ⟨_, _, fun _ => rfl, act_602_1 h_606 h_611⟩
  · exact ⟨_, _, fun _ => rfl, act_602_2 h_606⟩
set_option maxHeartbeats 4000000 in
set_option maxRecDepth 100000 in
theorem act_641_0 {Z : AS} {v e3 od much other : Int32} (h_645 : (e3 - e3 / (nI 7) * (nI 7)) = 0) (h_650 : od = 0) : ActGo Z v e3 od much other 641 (ansA (aKnown Z ((nI 1) + (lowV (v >>> ((nI 9) &&& 31)) (nI 40))))) Z := by
  intro p l e s m9 args below meth c D cI cJ A H0 Q9 a u H locs ls X hfl hE hZ9 hu hS hl kret
  have hCF := X.1
  obtain ⟨⟨hx, hb, hml, hown, hts⟩, hK, hA⟩ := X
  refine lv_iload_n hx hb dL_act_641 rfl (lv_at hl 3 rfl) ?_
  refine lv_bipush (v := (nI 7)) hx hb dL_act_642 (by decide) ?_
  refine lv_irem hx hb dL_act_644 (by decide) ?_
  refine lv_if_ne (tgt := 675) hx hb dL_act_645 (by decide) (fun c1 => absurd h_645 c1) (fun _ => ?_)
  refine lv_aload_n hx hb dL_act_648 rfl (lv_at hl 5 rfl) ?_
  refine lv_iload_n hx hb dL_act_649 rfl (lv_at hl 2 rfl) ?_
  refine lv_if_eq (tgt := 658) hx hb dL_act_650 (by decide) (fun _ => ?_) (fun c1 => absurd h_650 c1)
  refine lv_iconst (v := (nI 1)) hx hb dL_act_658 (by decide) ?_
  refine lv_iload_n hx hb dL_act_659 rfl (lv_at hl 4 rfl) ?_
  refine lv_bipush (v := (nI 9)) hx hb dL_act_660 (by decide) ?_
  refine lv_ishr hx hb dL_act_662 ?_
  refine lv_bipush (v := (nI 40)) hx hb dL_act_663 (by decide) ?_
  refine kS0 (As := [.int (v >>> ((nI 9) &&& 31)), .int (nI 40)]) (rest := [.int (nI 1), .ref (a 0)]) hCF hK (c_low l D _ (v >>> ((nI 9) &&& 31)) (nI 40) (by decide)) (va_cwS 2 hts (TBL_S mw_157 mw_158 mw_152 mw_159) rfl rfl rfl pmL_low.2 ⟨Nat.le_of_ble_eq_true rfl, Nat.le_of_ble_eq_true rfl⟩) hS hA rfl hl.1 rfl (Nat.le_of_ble_eq_true rfl) ⟨Nat.le_of_ble_eq_true rfl, Nat.le_of_ble_eq_true rfl⟩ dL_act_665 (fun H locs hS => ?_)
  refine lv_iadd hx hb dL_act_668 ?_
  refine kU (As := [.ref (a 0), .int ((nI 1) + (lowV (v >>> ((nI 9) &&& 31)) (nI 40)))]) (rest := []) hCF hK hE hZ9 (hA_known l D cI cJ hfl a hu ((nI 1) + (lowV (v >>> ((nI 9) &&& 31)) (nI 40)))) (vx_cwSW 2 hts (TBL_SWc mw_451 mw_452 mw_152 mw_453) rfl rfl rfl pmL_known.2 ⟨Nat.le_of_ble_eq_true rfl, Nat.le_of_ble_eq_true rfl⟩) hS hA rfl hl.1 rfl (Nat.le_of_ble_eq_true rfl) ⟨Nat.le_of_ble_eq_true rfl, Nat.le_of_ble_eq_true rfl⟩ dL_act_669 (fun H locs u hu hS => ?_)
  refine lv_goto (tgt := 680) hx hb dL_act_672 (by decide) ?_
  refine W.widen (k := 2) (n := 12) (Nat.le_of_ble_eq_true rfl) (Nat.le_of_ble_eq_true rfl) ?_
  rw [List.append_nil] at hS
  exact kret _ _ _ _ _ u rfl hu hS dL_act_680
set_option maxHeartbeats 4000000 in
set_option maxRecDepth 100000 in
theorem act_641_1 {Z : AS} {v e3 od much other : Int32} (h_645 : (e3 - e3 / (nI 7) * (nI 7)) = 0) (h_650 : ¬ (od = 0)) : ActGo Z v e3 od much other 641 (ansA (aKnown Z much)) Z := by
  intro p l e s m9 args below meth c D cI cJ A H0 Q9 a u H locs ls X hfl hE hZ9 hu hS hl kret
  have hCF := X.1
  obtain ⟨⟨hx, hb, hml, hown, hts⟩, hK, hA⟩ := X
  refine lv_iload_n hx hb dL_act_641 rfl (lv_at hl 3 rfl) ?_
  refine lv_bipush (v := (nI 7)) hx hb dL_act_642 (by decide) ?_
  refine lv_irem hx hb dL_act_644 (by decide) ?_
  refine lv_if_ne (tgt := 675) hx hb dL_act_645 (by decide) (fun c1 => absurd h_645 c1) (fun _ => ?_)
  refine lv_aload_n hx hb dL_act_648 rfl (lv_at hl 5 rfl) ?_
  refine lv_iload_n hx hb dL_act_649 rfl (lv_at hl 2 rfl) ?_
  refine lv_if_eq (tgt := 658) hx hb dL_act_650 (by decide) (fun c1 => absurd c1 h_650) (fun _ => ?_)
  refine lv_iload hx hb dL_act_653 (lv_at hl 1 rfl) ?_
  refine lv_goto (tgt := 669) hx hb dL_act_655 (by decide) ?_
  refine kU (As := [.ref (a 0), .int much]) (rest := []) hCF hK hE hZ9 (hA_known l D cI cJ hfl a hu much) (vx_cwSW 2 hts (TBL_SWc mw_451 mw_452 mw_152 mw_453) rfl rfl rfl pmL_known.2 ⟨Nat.le_of_ble_eq_true rfl, Nat.le_of_ble_eq_true rfl⟩) hS hA rfl hl.1 rfl (Nat.le_of_ble_eq_true rfl) ⟨Nat.le_of_ble_eq_true rfl, Nat.le_of_ble_eq_true rfl⟩ dL_act_669 (fun H locs u hu hS => ?_)
  refine lv_goto (tgt := 680) hx hb dL_act_672 (by decide) ?_
  refine W.widen (k := 2) (n := 12) (Nat.le_of_ble_eq_true rfl) (Nat.le_of_ble_eq_true rfl) ?_
  rw [List.append_nil] at hS
  exact kret _ _ _ _ _ u rfl hu hS dL_act_680
set_option maxHeartbeats 4000000 in
set_option maxRecDepth 100000 in
theorem act_641_2 {Z : AS} {v e3 od much other : Int32} (h_645 : ¬ ((e3 - e3 / (nI 7) * (nI 7)) = 0)) : ActGo Z v e3 od much other 641 (ansA (aTold Z (nI 3))) Z := by
  intro p l e s m9 args below meth c D cI cJ A H0 Q9 a u H locs ls X hfl hE hZ9 hu hS hl kret
  have hCF := X.1
  obtain ⟨⟨hx, hb, hml, hown, hts⟩, hK, hA⟩ := X
  refine lv_iload_n hx hb dL_act_641 rfl (lv_at hl 3 rfl) ?_
  refine lv_bipush (v := (nI 7)) hx hb dL_act_642 (by decide) ?_
  refine lv_irem hx hb dL_act_644 (by decide) ?_
  refine lv_if_ne (tgt := 675) hx hb dL_act_645 (by decide) (fun _ => ?_) (fun c1 => absurd c1 h_645)
  refine lv_aload_n hx hb dL_act_675 rfl (lv_at hl 5 rfl) ?_
  refine lv_iconst (v := (nI 3)) hx hb dL_act_676 (by decide) ?_
  refine kU (As := [.ref (a 0), .int (nI 3)]) (rest := []) hCF hK hE hZ9 (hA_told l D cI cJ hfl a hu (nI 3)) (vx_cwSW 2 hts (TBL_SWc mw_459 mw_460 mw_152 mw_461) rfl rfl rfl pmL_told.2 ⟨Nat.le_of_ble_eq_true rfl, Nat.le_of_ble_eq_true rfl⟩) hS hA rfl hl.1 rfl (Nat.le_of_ble_eq_true rfl) ⟨Nat.le_of_ble_eq_true rfl, Nat.le_of_ble_eq_true rfl⟩ dL_act_677 (fun H locs u hu hS => ?_)
  refine W.widen (k := 2) (n := 12) (Nat.le_of_ble_eq_true rfl) (Nat.le_of_ble_eq_true rfl) ?_
  rw [List.append_nil] at hS
  exact kret _ _ _ _ _ u rfl hu hS dL_act_680
theorem actc_641 {Z : AS} (hA : okA Z) (v e3 od much other : Int32) : ∃ (r : Int32) (Z2 : AS), (r = -99999999 → Z2 = Z) ∧ ActGo Z v e3 od much other 641 r Z2 := by
  by_cases h_645 : (e3 - e3 / (nI 7) * (nI 7)) = 0
  · by_cases h_650 : od = 0
    · exact ⟨_, _, fun _ => rfl, act_641_0 h_645 h_650⟩
    · exact ⟨_, _, fun _ => rfl, act_641_1 h_645 h_650⟩
  · exact ⟨_, _, fun _ => rfl, act_641_2 h_645⟩
set_option maxHeartbeats 4000000 in
set_option maxRecDepth 100000 in
theorem act_681_0 {Z : AS} {v e3 od much other : Int32} (h_685 : (e3 - e3 / (nI 11) * (nI 11)) = 0) (h_690 : od = 0) : ActGo Z v e3 od much other 681 (ansA (aOdds Z (lowV (v >>> ((nI 6) &&& 31)) (nI 2)) (lowV (v >>> ((nI 9) &&& 31)) (nI 300)) ((nI 1) + (lowV (v >>> ((nI 7) &&& 31)) (nI 2))) ((nI 1) + (lowV (v >>> ((nI 3) &&& 31)) (nI 30))))) Z := by
  intro p l e s m9 args below meth c D cI cJ A H0 Q9 a u H locs ls X hfl hE hZ9 hu hS hl kret
  have hCF := X.1
  obtain ⟨⟨hx, hb, hml, hown, hts⟩, hK, hA⟩ := X
  refine lv_iload_n hx hb dL_act_681 rfl (lv_at hl 3 rfl) ?_
  refine lv_bipush (v := (nI 11)) hx hb dL_act_682 (by decide) ?_
  refine lv_irem hx hb dL_act_684 (by decide) ?_
  refine lv_if_ne (tgt := 751) hx hb dL_act_685 (by decide) (fun c1 => absurd h_685 c1) (fun _ => ?_)
  refine lv_aload_n hx hb dL_act_688 rfl (lv_at hl 5 rfl) ?_
  refine lv_iload_n hx hb dL_act_689 rfl (lv_at hl 2 rfl) ?_
  refine lv_if_eq (tgt := 698) hx hb dL_act_690 (by decide) (fun _ => ?_) (fun c1 => absurd h_690 c1)
  refine lv_iload_n hx hb dL_act_698 rfl (lv_at hl 4 rfl) ?_
  refine lv_bipush (v := (nI 6)) hx hb dL_act_699 (by decide) ?_
  refine lv_ishr hx hb dL_act_701 ?_
  refine lv_iconst (v := (nI 2)) hx hb dL_act_702 (by decide) ?_
  refine kS0 (As := [.int (v >>> ((nI 6) &&& 31)), .int (nI 2)]) (rest := [.ref (a 0)]) hCF hK (c_low l D _ (v >>> ((nI 6) &&& 31)) (nI 2) (by decide)) (va_cwS 2 hts (TBL_S mw_157 mw_158 mw_152 mw_159) rfl rfl rfl pmL_low.2 ⟨Nat.le_of_ble_eq_true rfl, Nat.le_of_ble_eq_true rfl⟩) hS hA rfl hl.1 rfl (Nat.le_of_ble_eq_true rfl) ⟨Nat.le_of_ble_eq_true rfl, Nat.le_of_ble_eq_true rfl⟩ dL_act_703 (fun H locs hS => ?_)
  refine lv_iload_n hx hb dL_act_706 rfl (lv_at hl 4 rfl) ?_
  refine lv_bipush (v := (nI 9)) hx hb dL_act_707 (by decide) ?_
  refine lv_ishr hx hb dL_act_709 ?_
  refine lv_sipush (v := (nI 300)) hx hb dL_act_710 (by decide) ?_
  refine kS0 (As := [.int (v >>> ((nI 9) &&& 31)), .int (nI 300)]) (rest := [.int (lowV (v >>> ((nI 6) &&& 31)) (nI 2)), .ref (a 0)]) hCF hK (c_low l D _ (v >>> ((nI 9) &&& 31)) (nI 300) (by decide)) (va_cwS 2 hts (TBL_S mw_157 mw_158 mw_152 mw_159) rfl rfl rfl pmL_low.2 ⟨Nat.le_of_ble_eq_true rfl, Nat.le_of_ble_eq_true rfl⟩) hS hA rfl hl.1 rfl (Nat.le_of_ble_eq_true rfl) ⟨Nat.le_of_ble_eq_true rfl, Nat.le_of_ble_eq_true rfl⟩ dL_act_713 (fun H locs hS => ?_)
  refine lv_iload_n hx hb dL_act_716 rfl (lv_at hl 2 rfl) ?_
  refine lv_if_eq (tgt := 725) hx hb dL_act_717 (by decide) (fun _ => ?_) (fun c1 => absurd h_690 c1)
  refine lv_iconst (v := (nI 1)) hx hb dL_act_725 (by decide) ?_
  refine lv_iload_n hx hb dL_act_726 rfl (lv_at hl 4 rfl) ?_
  refine lv_bipush (v := (nI 7)) hx hb dL_act_727 (by decide) ?_
  refine lv_ishr hx hb dL_act_729 ?_
  refine lv_iconst (v := (nI 2)) hx hb dL_act_730 (by decide) ?_
  refine kS0 (As := [.int (v >>> ((nI 7) &&& 31)), .int (nI 2)]) (rest := [.int (nI 1), .int (lowV (v >>> ((nI 9) &&& 31)) (nI 300)), .int (lowV (v >>> ((nI 6) &&& 31)) (nI 2)), .ref (a 0)]) hCF hK (c_low l D _ (v >>> ((nI 7) &&& 31)) (nI 2) (by decide)) (va_cwS 2 hts (TBL_S mw_157 mw_158 mw_152 mw_159) rfl rfl rfl pmL_low.2 ⟨Nat.le_of_ble_eq_true rfl, Nat.le_of_ble_eq_true rfl⟩) hS hA rfl hl.1 rfl (Nat.le_of_ble_eq_true rfl) ⟨Nat.le_of_ble_eq_true rfl, Nat.le_of_ble_eq_true rfl⟩ dL_act_731 (fun H locs hS => ?_)
  refine lv_iadd hx hb dL_act_734 ?_
  refine lv_iconst (v := (nI 1)) hx hb dL_act_735 (by decide) ?_
  refine lv_iload_n hx hb dL_act_736 rfl (lv_at hl 4 rfl) ?_
  refine lv_iconst (v := (nI 3)) hx hb dL_act_737 (by decide) ?_
  refine lv_ishr hx hb dL_act_738 ?_
  refine lv_bipush (v := (nI 30)) hx hb dL_act_739 (by decide) ?_
  refine kS0 (As := [.int (v >>> ((nI 3) &&& 31)), .int (nI 30)]) (rest := [.int (nI 1), .int ((nI 1) + (lowV (v >>> ((nI 7) &&& 31)) (nI 2))), .int (lowV (v >>> ((nI 9) &&& 31)) (nI 300)), .int (lowV (v >>> ((nI 6) &&& 31)) (nI 2)), .ref (a 0)]) hCF hK (c_low l D _ (v >>> ((nI 3) &&& 31)) (nI 30) (by decide)) (va_cwS 2 hts (TBL_S mw_157 mw_158 mw_152 mw_159) rfl rfl rfl pmL_low.2 ⟨Nat.le_of_ble_eq_true rfl, Nat.le_of_ble_eq_true rfl⟩) hS hA rfl hl.1 rfl (Nat.le_of_ble_eq_true rfl) ⟨Nat.le_of_ble_eq_true rfl, Nat.le_of_ble_eq_true rfl⟩ dL_act_741 (fun H locs hS => ?_)
  refine lv_iadd hx hb dL_act_744 ?_
  refine kU (As := [.ref (a 0), .int (lowV (v >>> ((nI 6) &&& 31)) (nI 2)), .int (lowV (v >>> ((nI 9) &&& 31)) (nI 300)), .int ((nI 1) + (lowV (v >>> ((nI 7) &&& 31)) (nI 2))), .int ((nI 1) + (lowV (v >>> ((nI 3) &&& 31)) (nI 30)))]) (rest := []) hCF hK hE hZ9 (hA_odds l D cI cJ hfl a hu (lowV (v >>> ((nI 6) &&& 31)) (nI 2)) (lowV (v >>> ((nI 9) &&& 31)) (nI 300)) ((nI 1) + (lowV (v >>> ((nI 7) &&& 31)) (nI 2))) ((nI 1) + (lowV (v >>> ((nI 3) &&& 31)) (nI 30)))) (vx_cwSW 5 hts (TBL_SWc mw_476 mw_477 mw_152 mw_478) rfl rfl rfl pmL_odds.2 ⟨Nat.le_of_ble_eq_true rfl, Nat.le_of_ble_eq_true rfl⟩) hS hA rfl hl.1 rfl (Nat.le_of_ble_eq_true rfl) ⟨Nat.le_of_ble_eq_true rfl, Nat.le_of_ble_eq_true rfl⟩ dL_act_745 (fun H locs u hu hS => ?_)
  refine lv_goto (tgt := 756) hx hb dL_act_748 (by decide) ?_
  refine W.widen (k := 2) (n := 12) (Nat.le_of_ble_eq_true rfl) (Nat.le_of_ble_eq_true rfl) ?_
  rw [List.append_nil] at hS
  exact kret _ _ _ _ _ u rfl hu hS dL_act_756
set_option maxHeartbeats 4000000 in
set_option maxRecDepth 100000 in
theorem act_681_1 {Z : AS} {v e3 od much other : Int32} (h_685 : (e3 - e3 / (nI 11) * (nI 11)) = 0) (h_690 : ¬ (od = 0)) : ActGo Z v e3 od much other 681 (ansA (aOdds Z other (lowV (v >>> ((nI 9) &&& 31)) (nI 300)) much ((nI 1) + (lowV (v >>> ((nI 3) &&& 31)) (nI 30))))) Z := by
  intro p l e s m9 args below meth c D cI cJ A H0 Q9 a u H locs ls X hfl hE hZ9 hu hS hl kret
  have hCF := X.1
  obtain ⟨⟨hx, hb, hml, hown, hts⟩, hK, hA⟩ := X
  refine lv_iload_n hx hb dL_act_681 rfl (lv_at hl 3 rfl) ?_
  refine lv_bipush (v := (nI 11)) hx hb dL_act_682 (by decide) ?_
  refine lv_irem hx hb dL_act_684 (by decide) ?_
  refine lv_if_ne (tgt := 751) hx hb dL_act_685 (by decide) (fun c1 => absurd h_685 c1) (fun _ => ?_)
  refine lv_aload_n hx hb dL_act_688 rfl (lv_at hl 5 rfl) ?_
  refine lv_iload_n hx hb dL_act_689 rfl (lv_at hl 2 rfl) ?_
  refine lv_if_eq (tgt := 698) hx hb dL_act_690 (by decide) (fun c1 => absurd c1 h_690) (fun _ => ?_)
  refine lv_iload hx hb dL_act_693 (lv_at hl 0 rfl) ?_
  refine lv_goto (tgt := 706) hx hb dL_act_695 (by decide) ?_
  refine lv_iload_n hx hb dL_act_706 rfl (lv_at hl 4 rfl) ?_
  refine lv_bipush (v := (nI 9)) hx hb dL_act_707 (by decide) ?_
  refine lv_ishr hx hb dL_act_709 ?_
  refine lv_sipush (v := (nI 300)) hx hb dL_act_710 (by decide) ?_
  refine kS0 (As := [.int (v >>> ((nI 9) &&& 31)), .int (nI 300)]) (rest := [.int other, .ref (a 0)]) hCF hK (c_low l D _ (v >>> ((nI 9) &&& 31)) (nI 300) (by decide)) (va_cwS 2 hts (TBL_S mw_157 mw_158 mw_152 mw_159) rfl rfl rfl pmL_low.2 ⟨Nat.le_of_ble_eq_true rfl, Nat.le_of_ble_eq_true rfl⟩) hS hA rfl hl.1 rfl (Nat.le_of_ble_eq_true rfl) ⟨Nat.le_of_ble_eq_true rfl, Nat.le_of_ble_eq_true rfl⟩ dL_act_713 (fun H locs hS => ?_)
  refine lv_iload_n hx hb dL_act_716 rfl (lv_at hl 2 rfl) ?_
  refine lv_if_eq (tgt := 725) hx hb dL_act_717 (by decide) (fun c1 => absurd c1 h_690) (fun _ => ?_)
  refine lv_iload hx hb dL_act_720 (lv_at hl 1 rfl) ?_
  refine lv_goto (tgt := 735) hx hb dL_act_722 (by decide) ?_
  refine lv_iconst (v := (nI 1)) hx hb dL_act_735 (by decide) ?_
  refine lv_iload_n hx hb dL_act_736 rfl (lv_at hl 4 rfl) ?_
  refine lv_iconst (v := (nI 3)) hx hb dL_act_737 (by decide) ?_
  refine lv_ishr hx hb dL_act_738 ?_
  refine lv_bipush (v := (nI 30)) hx hb dL_act_739 (by decide) ?_
  refine kS0 (As := [.int (v >>> ((nI 3) &&& 31)), .int (nI 30)]) (rest := [.int (nI 1), .int much, .int (lowV (v >>> ((nI 9) &&& 31)) (nI 300)), .int other, .ref (a 0)]) hCF hK (c_low l D _ (v >>> ((nI 3) &&& 31)) (nI 30) (by decide)) (va_cwS 2 hts (TBL_S mw_157 mw_158 mw_152 mw_159) rfl rfl rfl pmL_low.2 ⟨Nat.le_of_ble_eq_true rfl, Nat.le_of_ble_eq_true rfl⟩) hS hA rfl hl.1 rfl (Nat.le_of_ble_eq_true rfl) ⟨Nat.le_of_ble_eq_true rfl, Nat.le_of_ble_eq_true rfl⟩ dL_act_741 (fun H locs hS => ?_)
  refine lv_iadd hx hb dL_act_744 ?_
  refine kU (As := [.ref (a 0), .int other, .int (lowV (v >>> ((nI 9) &&& 31)) (nI 300)), .int much, .int ((nI 1) + (lowV (v >>> ((nI 3) &&& 31)) (nI 30)))]) (rest := []) hCF hK hE hZ9 (hA_odds l D cI cJ hfl a hu other (lowV (v >>> ((nI 9) &&& 31)) (nI 300)) much ((nI 1) + (lowV (v >>> ((nI 3) &&& 31)) (nI 30)))) (vx_cwSW 5 hts (TBL_SWc mw_476 mw_477 mw_152 mw_478) rfl rfl rfl pmL_odds.2 ⟨Nat.le_of_ble_eq_true rfl, Nat.le_of_ble_eq_true rfl⟩) hS hA rfl hl.1 rfl (Nat.le_of_ble_eq_true rfl) ⟨Nat.le_of_ble_eq_true rfl, Nat.le_of_ble_eq_true rfl⟩ dL_act_745 (fun H locs u hu hS => ?_)
  refine lv_goto (tgt := 756) hx hb dL_act_748 (by decide) ?_
  refine W.widen (k := 2) (n := 12) (Nat.le_of_ble_eq_true rfl) (Nat.le_of_ble_eq_true rfl) ?_
  rw [List.append_nil] at hS
  exact kret _ _ _ _ _ u rfl hu hS dL_act_756
set_option maxHeartbeats 4000000 in
set_option maxRecDepth 100000 in
theorem act_681_2 {Z : AS} {v e3 od much other : Int32} (h_685 : ¬ ((e3 - e3 / (nI 11) * (nI 11)) = 0)) : ActGo Z v e3 od much other 681 (ansA (aTold Z (nI 5))) Z := by
  intro p l e s m9 args below meth c D cI cJ A H0 Q9 a u H locs ls X hfl hE hZ9 hu hS hl kret
  have hCF := X.1
  obtain ⟨⟨hx, hb, hml, hown, hts⟩, hK, hA⟩ := X
  refine lv_iload_n hx hb dL_act_681 rfl (lv_at hl 3 rfl) ?_
  refine lv_bipush (v := (nI 11)) hx hb dL_act_682 (by decide) ?_
  refine lv_irem hx hb dL_act_684 (by decide) ?_
  refine lv_if_ne (tgt := 751) hx hb dL_act_685 (by decide) (fun _ => ?_) (fun c1 => absurd c1 h_685)
  refine lv_aload_n hx hb dL_act_751 rfl (lv_at hl 5 rfl) ?_
  refine lv_iconst (v := (nI 5)) hx hb dL_act_752 (by decide) ?_
  refine kU (As := [.ref (a 0), .int (nI 5)]) (rest := []) hCF hK hE hZ9 (hA_told l D cI cJ hfl a hu (nI 5)) (vx_cwSW 2 hts (TBL_SWc mw_459 mw_460 mw_152 mw_461) rfl rfl rfl pmL_told.2 ⟨Nat.le_of_ble_eq_true rfl, Nat.le_of_ble_eq_true rfl⟩) hS hA rfl hl.1 rfl (Nat.le_of_ble_eq_true rfl) ⟨Nat.le_of_ble_eq_true rfl, Nat.le_of_ble_eq_true rfl⟩ dL_act_753 (fun H locs u hu hS => ?_)
  refine W.widen (k := 2) (n := 12) (Nat.le_of_ble_eq_true rfl) (Nat.le_of_ble_eq_true rfl) ?_
  rw [List.append_nil] at hS
  exact kret _ _ _ _ _ u rfl hu hS dL_act_756
theorem actc_681 {Z : AS} (hA : okA Z) (v e3 od much other : Int32) : ∃ (r : Int32) (Z2 : AS), (r = -99999999 → Z2 = Z) ∧ ActGo Z v e3 od much other 681 r Z2 := by
  by_cases h_685 : (e3 - e3 / (nI 11) * (nI 11)) = 0
  · by_cases h_690 : od = 0
    · exact ⟨_, _, fun _ => rfl, act_681_0 h_685 h_690⟩
    · exact ⟨_, _, fun _ => rfl, act_681_1 h_685 h_690⟩
  · exact ⟨_, _, fun _ => rfl, act_681_2 h_685⟩
set_option maxHeartbeats 4000000 in
set_option maxRecDepth 100000 in
theorem act_757_0 {Z : AS} {v e3 od much other : Int32} (h_759 : od = 0) : ActGo Z v e3 od much other 757 (ansA (aCard Z (lowV (v >>> ((nI 6) &&& 31)) (nI 10)) (lowV (v >>> ((nI 9) &&& 31)) (nI 5)))) Z := by
  intro p l e s m9 args below meth c D cI cJ A H0 Q9 a u H locs ls X hfl hE hZ9 hu hS hl kret
  have hCF := X.1
  obtain ⟨⟨hx, hb, hml, hown, hts⟩, hK, hA⟩ := X
  refine lv_aload_n hx hb dL_act_757 rfl (lv_at hl 5 rfl) ?_
  refine lv_iload_n hx hb dL_act_758 rfl (lv_at hl 2 rfl) ?_
  refine lv_if_eq (tgt := 767) hx hb dL_act_759 (by decide) (fun _ => ?_) (fun c1 => absurd h_759 c1)
  refine lv_iload_n hx hb dL_act_767 rfl (lv_at hl 4 rfl) ?_
  refine lv_bipush (v := (nI 6)) hx hb dL_act_768 (by decide) ?_
  refine lv_ishr hx hb dL_act_770 ?_
  refine lv_bipush (v := (nI 10)) hx hb dL_act_771 (by decide) ?_
  refine kS0 (As := [.int (v >>> ((nI 6) &&& 31)), .int (nI 10)]) (rest := [.ref (a 0)]) hCF hK (c_low l D _ (v >>> ((nI 6) &&& 31)) (nI 10) (by decide)) (va_cwS 2 hts (TBL_S mw_157 mw_158 mw_152 mw_159) rfl rfl rfl pmL_low.2 ⟨Nat.le_of_ble_eq_true rfl, Nat.le_of_ble_eq_true rfl⟩) hS hA rfl hl.1 rfl (Nat.le_of_ble_eq_true rfl) ⟨Nat.le_of_ble_eq_true rfl, Nat.le_of_ble_eq_true rfl⟩ dL_act_773 (fun H locs hS => ?_)
  refine lv_iload_n hx hb dL_act_776 rfl (lv_at hl 2 rfl) ?_
  refine lv_if_eq (tgt := 785) hx hb dL_act_777 (by decide) (fun _ => ?_) (fun c1 => absurd h_759 c1)
  refine lv_iload_n hx hb dL_act_785 rfl (lv_at hl 4 rfl) ?_
  refine lv_bipush (v := (nI 9)) hx hb dL_act_786 (by decide) ?_
  refine lv_ishr hx hb dL_act_788 ?_
  refine lv_iconst (v := (nI 5)) hx hb dL_act_789 (by decide) ?_
  refine kS0 (As := [.int (v >>> ((nI 9) &&& 31)), .int (nI 5)]) (rest := [.int (lowV (v >>> ((nI 6) &&& 31)) (nI 10)), .ref (a 0)]) hCF hK (c_low l D _ (v >>> ((nI 9) &&& 31)) (nI 5) (by decide)) (va_cwS 2 hts (TBL_S mw_157 mw_158 mw_152 mw_159) rfl rfl rfl pmL_low.2 ⟨Nat.le_of_ble_eq_true rfl, Nat.le_of_ble_eq_true rfl⟩) hS hA rfl hl.1 rfl (Nat.le_of_ble_eq_true rfl) ⟨Nat.le_of_ble_eq_true rfl, Nat.le_of_ble_eq_true rfl⟩ dL_act_790 (fun H locs hS => ?_)
  refine kU (As := [.ref (a 0), .int (lowV (v >>> ((nI 6) &&& 31)) (nI 10)), .int (lowV (v >>> ((nI 9) &&& 31)) (nI 5))]) (rest := []) hCF hK hE hZ9 (hA_card l D cI cJ hfl a hu (lowV (v >>> ((nI 6) &&& 31)) (nI 10)) (lowV (v >>> ((nI 9) &&& 31)) (nI 5))) (vx_cwSW 3 hts (TBL_SWc mw_483 mw_484 mw_152 mw_485) rfl rfl rfl pmL_card.2 ⟨Nat.le_of_ble_eq_true rfl, Nat.le_of_ble_eq_true rfl⟩) hS hA rfl hl.1 rfl (Nat.le_of_ble_eq_true rfl) ⟨Nat.le_of_ble_eq_true rfl, Nat.le_of_ble_eq_true rfl⟩ dL_act_793 (fun H locs u hu hS => ?_)
  refine W.widen (k := 2) (n := 12) (Nat.le_of_ble_eq_true rfl) (Nat.le_of_ble_eq_true rfl) ?_
  rw [List.append_nil] at hS
  exact kret _ _ _ _ _ u rfl hu hS dL_act_796
set_option maxHeartbeats 4000000 in
set_option maxRecDepth 100000 in
theorem act_757_1 {Z : AS} {v e3 od much other : Int32} (h_759 : ¬ (od = 0)) : ActGo Z v e3 od much other 757 (ansA (aCard Z other much)) Z := by
  intro p l e s m9 args below meth c D cI cJ A H0 Q9 a u H locs ls X hfl hE hZ9 hu hS hl kret
  have hCF := X.1
  obtain ⟨⟨hx, hb, hml, hown, hts⟩, hK, hA⟩ := X
  refine lv_aload_n hx hb dL_act_757 rfl (lv_at hl 5 rfl) ?_
  refine lv_iload_n hx hb dL_act_758 rfl (lv_at hl 2 rfl) ?_
  refine lv_if_eq (tgt := 767) hx hb dL_act_759 (by decide) (fun c1 => absurd c1 h_759) (fun _ => ?_)
  refine lv_iload hx hb dL_act_762 (lv_at hl 0 rfl) ?_
  refine lv_goto (tgt := 776) hx hb dL_act_764 (by decide) ?_
  refine lv_iload_n hx hb dL_act_776 rfl (lv_at hl 2 rfl) ?_
  refine lv_if_eq (tgt := 785) hx hb dL_act_777 (by decide) (fun c1 => absurd c1 h_759) (fun _ => ?_)
  refine lv_iload hx hb dL_act_780 (lv_at hl 1 rfl) ?_
  refine lv_goto (tgt := 793) hx hb dL_act_782 (by decide) ?_
  refine kU (As := [.ref (a 0), .int other, .int much]) (rest := []) hCF hK hE hZ9 (hA_card l D cI cJ hfl a hu other much) (vx_cwSW 3 hts (TBL_SWc mw_483 mw_484 mw_152 mw_485) rfl rfl rfl pmL_card.2 ⟨Nat.le_of_ble_eq_true rfl, Nat.le_of_ble_eq_true rfl⟩) hS hA rfl hl.1 rfl (Nat.le_of_ble_eq_true rfl) ⟨Nat.le_of_ble_eq_true rfl, Nat.le_of_ble_eq_true rfl⟩ dL_act_793 (fun H locs u hu hS => ?_)
  refine W.widen (k := 2) (n := 12) (Nat.le_of_ble_eq_true rfl) (Nat.le_of_ble_eq_true rfl) ?_
  rw [List.append_nil] at hS
  exact kret _ _ _ _ _ u rfl hu hS dL_act_796
theorem actc_757 {Z : AS} (hA : okA Z) (v e3 od much other : Int32) : ∃ (r : Int32) (Z2 : AS), (r = -99999999 → Z2 = Z) ∧ ActGo Z v e3 od much other 757 r Z2 := by
  by_cases h_759 : od = 0
  · exact ⟨_, _, fun _ => rfl, act_757_0 h_759⟩
  · exact ⟨_, _, fun _ => rfl, act_757_1 h_759⟩
set_option maxHeartbeats 4000000 in
set_option maxRecDepth 100000 in
theorem act_797_0 {Z : AS} {v e3 od much other : Int32} (h_799 : od = 0) : ActGo Z v e3 od much other 797 (ansA (aTold Z (lowV (v >>> ((nI 9) &&& 31)) (nI 8)))) Z := by
  intro p l e s m9 args below meth c D cI cJ A H0 Q9 a u H locs ls X hfl hE hZ9 hu hS hl kret
  have hCF := X.1
  obtain ⟨⟨hx, hb, hml, hown, hts⟩, hK, hA⟩ := X
  refine lv_aload_n hx hb dL_act_797 rfl (lv_at hl 5 rfl) ?_
  refine lv_iload_n hx hb dL_act_798 rfl (lv_at hl 2 rfl) ?_
  refine lv_if_eq (tgt := 807) hx hb dL_act_799 (by decide) (fun _ => ?_) (fun c1 => absurd h_799 c1)
  refine lv_iload_n hx hb dL_act_807 rfl (lv_at hl 4 rfl) ?_
  refine lv_bipush (v := (nI 9)) hx hb dL_act_808 (by decide) ?_
  refine lv_ishr hx hb dL_act_810 ?_
  refine lv_bipush (v := (nI 8)) hx hb dL_act_811 (by decide) ?_
  refine kS0 (As := [.int (v >>> ((nI 9) &&& 31)), .int (nI 8)]) (rest := [.ref (a 0)]) hCF hK (c_low l D _ (v >>> ((nI 9) &&& 31)) (nI 8) (by decide)) (va_cwS 2 hts (TBL_S mw_157 mw_158 mw_152 mw_159) rfl rfl rfl pmL_low.2 ⟨Nat.le_of_ble_eq_true rfl, Nat.le_of_ble_eq_true rfl⟩) hS hA rfl hl.1 rfl (Nat.le_of_ble_eq_true rfl) ⟨Nat.le_of_ble_eq_true rfl, Nat.le_of_ble_eq_true rfl⟩ dL_act_813 (fun H locs hS => ?_)
  refine kU (As := [.ref (a 0), .int (lowV (v >>> ((nI 9) &&& 31)) (nI 8))]) (rest := []) hCF hK hE hZ9 (hA_told l D cI cJ hfl a hu (lowV (v >>> ((nI 9) &&& 31)) (nI 8))) (vx_cwSW 2 hts (TBL_SWc mw_459 mw_460 mw_152 mw_461) rfl rfl rfl pmL_told.2 ⟨Nat.le_of_ble_eq_true rfl, Nat.le_of_ble_eq_true rfl⟩) hS hA rfl hl.1 rfl (Nat.le_of_ble_eq_true rfl) ⟨Nat.le_of_ble_eq_true rfl, Nat.le_of_ble_eq_true rfl⟩ dL_act_816 (fun H locs u hu hS => ?_)
  refine W.widen (k := 2) (n := 12) (Nat.le_of_ble_eq_true rfl) (Nat.le_of_ble_eq_true rfl) ?_
  rw [List.append_nil] at hS
  exact kret _ _ _ _ _ u rfl hu hS dL_act_819
set_option maxHeartbeats 4000000 in
set_option maxRecDepth 100000 in
theorem act_797_1 {Z : AS} {v e3 od much other : Int32} (h_799 : ¬ (od = 0)) : ActGo Z v e3 od much other 797 (ansA (aTold Z much)) Z := by
  intro p l e s m9 args below meth c D cI cJ A H0 Q9 a u H locs ls X hfl hE hZ9 hu hS hl kret
  have hCF := X.1
  obtain ⟨⟨hx, hb, hml, hown, hts⟩, hK, hA⟩ := X
  refine lv_aload_n hx hb dL_act_797 rfl (lv_at hl 5 rfl) ?_
  refine lv_iload_n hx hb dL_act_798 rfl (lv_at hl 2 rfl) ?_
  refine lv_if_eq (tgt := 807) hx hb dL_act_799 (by decide) (fun c1 => absurd c1 h_799) (fun _ => ?_)
  refine lv_iload hx hb dL_act_802 (lv_at hl 1 rfl) ?_
  refine lv_goto (tgt := 816) hx hb dL_act_804 (by decide) ?_
  refine kU (As := [.ref (a 0), .int much]) (rest := []) hCF hK hE hZ9 (hA_told l D cI cJ hfl a hu much) (vx_cwSW 2 hts (TBL_SWc mw_459 mw_460 mw_152 mw_461) rfl rfl rfl pmL_told.2 ⟨Nat.le_of_ble_eq_true rfl, Nat.le_of_ble_eq_true rfl⟩) hS hA rfl hl.1 rfl (Nat.le_of_ble_eq_true rfl) ⟨Nat.le_of_ble_eq_true rfl, Nat.le_of_ble_eq_true rfl⟩ dL_act_816 (fun H locs u hu hS => ?_)
  refine W.widen (k := 2) (n := 12) (Nat.le_of_ble_eq_true rfl) (Nat.le_of_ble_eq_true rfl) ?_
  rw [List.append_nil] at hS
  exact kret _ _ _ _ _ u rfl hu hS dL_act_819
theorem actc_797 {Z : AS} (hA : okA Z) (v e3 od much other : Int32) : ∃ (r : Int32) (Z2 : AS), (r = -99999999 → Z2 = Z) ∧ ActGo Z v e3 od much other 797 r Z2 := by
  by_cases h_799 : od = 0
  · exact ⟨_, _, fun _ => rfl, act_797_0 h_799⟩
  · exact ⟨_, _, fun _ => rfl, act_797_1 h_799⟩
def odV (v : Int32) : Int32 := if (lowV (v >>> ((nI 26) &&& 31)) (nI 14)) = 0 then (nI 1) else (nI 0)
def muchV (v : Int32) : Int32 := if (lowV (v >>> ((nI 26) &&& 31)) (nI 14)) = 0 then (v >>> ((nI 9) &&& 31)) else (lowV (v >>> ((nI 9) &&& 31)) (nI 5))
def otherV (v : Int32) : Int32 := if (lowV (v >>> ((nI 26) &&& 31)) (nI 14)) = 0 then ((lowV (v >>> ((nI 6) &&& 31)) (nI 13)) - (nI 2)) else (lowV (v >>> ((nI 6) &&& 31)) (nI 5))
/-- the switch, from its value to pc0 -/
def SwGo (v : Int32) (pc0 : Nat) : Prop := ∀ (p : Program) (l : Launch) (e : Env) (R : Room) (s : State) (m9 : MethodId) (args : Array Value) (below : List Frame) (meth : Method) (c : Code) (Q9 : State → Prop) (H : Heap) (locs : List Loc) (ls : Array Slot), p.tables.exec = Jvm.exec → c.code = cL_act → W p l e R s m9 args below meth c H locs 0 0 Q9 (F0 m9 pc0 ls []) → W p l e R s m9 args below meth c H locs 0 0 Q9 (F0 m9 73 ls [.int (lowV v (nI 32))])
set_option maxHeartbeats 4000000 in
set_option maxRecDepth 100000 in
theorem act_in {Z : AS} {v e3 : Int32} {pc0 : Nat} {r : Int32} {Z2 : AS} (hsw : SwGo v pc0) (hg : ActGo Z v e3 (odV v) (muchV v) (otherV v) pc0 r Z2) (l : Launch) (D : va_G) (cI cJ : ClassId) (hfl : l.stackTraces = false) (a : Nat → Nat) (u : PC) (hu : okU Z u) : CtM l D [(cI, .int), (cJ, .long)] yL_act wtL_act rmA [.ref (a 0), .int v, .int e3] (WU cI cJ a u) (WU cI cJ a) (okU Z2) r 2 12 := by
  refine CtM.ofI (cc := cL_act) (maxL := 7) rfl (by decide) rfl (Nat.le_of_ble_eq_true rfl) ?_
  intro p e s m9 args below meth c A H0 Q9 ls X hE hZ9 hS hl kret
  have X0 := X
  have hCF := X.1
  obtain ⟨⟨hx, hb, hml, hown, hts⟩, hK, hA⟩ := X
  have hl : lv_has ls 7 [(0, .ref (a 0)), (1, .int v), (2, .int e3)] := hl
  replace hS : HS D A H0 (WU cI cJ a u ++ []) H0 [] := hS.cast (List.append_nil _).symm
  by_cases ho : (lowV (v >>> ((nI 26) &&& 31)) (nI 14)) = 0
  · have eo : odV v = (nI 1) := if_pos ho
    have em : muchV v = (v >>> ((nI 9) &&& 31)) := if_pos ho
    have et : otherV v = ((lowV (v >>> ((nI 6) &&& 31)) (nI 13)) - (nI 2)) := if_pos ho
    rw [eo, em, et] at hg
    refine lv_iload_n hx hb dL_act_0 rfl (lv_at hl 1 rfl) ?_
    refine lv_bipush (v := (nI 26)) hx hb dL_act_1 (by decide) ?_
    refine lv_ishr hx hb dL_act_3 ?_
    refine lv_bipush (v := (nI 14)) hx hb dL_act_4 (by decide) ?_
    refine kS0 (As := [.int (v >>> ((nI 26) &&& 31)), .int (nI 14)]) (rest := []) hCF hK (c_low l D _ (v >>> ((nI 26) &&& 31)) (nI 14) (by decide)) (va_cwS 2 hts (TBL_S mw_157 mw_158 mw_152 mw_159) rfl rfl rfl pmL_low.2 ⟨Nat.le_of_ble_eq_true rfl, Nat.le_of_ble_eq_true rfl⟩) hS hA rfl hl.1 rfl (Nat.le_of_ble_eq_true rfl) ⟨Nat.le_of_ble_eq_true rfl, Nat.le_of_ble_eq_true rfl⟩ dL_act_6 (fun H locs hS => ?_)
    refine lv_if_ne (tgt := 16) hx hb dL_act_9 (by decide) (fun c1 => absurd ho c1) (fun _ => ?_)
    refine lv_iconst (v := (nI 1)) hx hb dL_act_12 (by decide) ?_
    refine lv_goto (tgt := 17) hx hb dL_act_13 (by decide) ?_
    refine lv_istore_n (lv' := [(3, .int (nI 1)), (0, .ref (a 0)), (1, .int v), (2, .int e3)]) hx hb dL_act_17 rfl hl (by decide) rfl (fun ls hl => ?_)
    refine lv_iload_n hx hb dL_act_18 rfl (lv_at hl 0 rfl) ?_
    refine lv_if_eq (tgt := 29) hx hb dL_act_19 (by decide) (fun c1 => absurd c1 (by decide)) (fun _ => ?_)
    refine lv_iload_n hx hb dL_act_22 rfl (lv_at hl 2 rfl) ?_
    refine lv_bipush (v := (nI 9)) hx hb dL_act_23 (by decide) ?_
    refine lv_ishr hx hb dL_act_25 ?_
    refine lv_goto (tgt := 37) hx hb dL_act_26 (by decide) ?_
    refine lv_istore (lv' := [(4, .int (v >>> ((nI 9) &&& 31))), (3, .int (nI 1)), (0, .ref (a 0)), (1, .int v), (2, .int e3)]) hx hb dL_act_37 hl (by decide) rfl (fun ls hl => ?_)
    refine lv_iload_n hx hb dL_act_39 rfl (lv_at hl 1 rfl) ?_
    refine lv_if_eq (tgt := 57) hx hb dL_act_40 (by decide) (fun c1 => absurd c1 (by decide)) (fun _ => ?_)
    refine lv_iload_n hx hb dL_act_43 rfl (lv_at hl 3 rfl) ?_
    refine lv_bipush (v := (nI 6)) hx hb dL_act_44 (by decide) ?_
    refine lv_ishr hx hb dL_act_46 ?_
    refine lv_bipush (v := (nI 13)) hx hb dL_act_47 (by decide) ?_
    refine kS0 (As := [.int (v >>> ((nI 6) &&& 31)), .int (nI 13)]) (rest := []) hCF hK (c_low l D _ (v >>> ((nI 6) &&& 31)) (nI 13) (by decide)) (va_cwS 2 hts (TBL_S mw_157 mw_158 mw_152 mw_159) rfl rfl rfl pmL_low.2 ⟨Nat.le_of_ble_eq_true rfl, Nat.le_of_ble_eq_true rfl⟩) hS hA rfl hl.1 rfl (Nat.le_of_ble_eq_true rfl) ⟨Nat.le_of_ble_eq_true rfl, Nat.le_of_ble_eq_true rfl⟩ dL_act_49 (fun H locs hS => ?_)
    refine lv_iconst (v := (nI 2)) hx hb dL_act_52 (by decide) ?_
    refine lv_isub hx hb dL_act_53 ?_
    refine lv_goto (tgt := 65) hx hb dL_act_54 (by decide) ?_
    refine lv_istore (lv' := [(5, .int ((lowV (v >>> ((nI 6) &&& 31)) (nI 13)) - (nI 2))), (4, .int (v >>> ((nI 9) &&& 31))), (3, .int (nI 1)), (0, .ref (a 0)), (1, .int v), (2, .int e3)]) hx hb dL_act_65 hl (by decide) rfl (fun ls hl => ?_)
    refine lv_iload_n hx hb dL_act_67 rfl (lv_at hl 4 rfl) ?_
    refine lv_bipush (v := (nI 32)) hx hb dL_act_68 (by decide) ?_
    refine kS0 (As := [.int v, .int (nI 32)]) (rest := []) hCF hK (c_low l D _ v (nI 32) (by decide)) (va_cwS 2 hts (TBL_S mw_157 mw_158 mw_152 mw_159) rfl rfl rfl pmL_low.2 ⟨Nat.le_of_ble_eq_true rfl, Nat.le_of_ble_eq_true rfl⟩) hS hA rfl hl.1 rfl (Nat.le_of_ble_eq_true rfl) ⟨Nat.le_of_ble_eq_true rfl, Nat.le_of_ble_eq_true rfl⟩ dL_act_70 (fun H locs hS => ?_)
    refine hsw _ _ _ _ _ _ _ _ _ _ _ _ _ _ hx hb ?_
    exact hg _ _ _ _ _ _ _ _ _ _ _ _ _ _ _ _ _ _ _ _ X0 hfl hE hZ9 hu hS (lv_sub hl [0, 1, 2, 5, 4, 3] rfl) kret
  · have eo : odV v = (nI 0) := if_neg ho
    have em : muchV v = (lowV (v >>> ((nI 9) &&& 31)) (nI 5)) := if_neg ho
    have et : otherV v = (lowV (v >>> ((nI 6) &&& 31)) (nI 5)) := if_neg ho
    rw [eo, em, et] at hg
    refine lv_iload_n hx hb dL_act_0 rfl (lv_at hl 1 rfl) ?_
    refine lv_bipush (v := (nI 26)) hx hb dL_act_1 (by decide) ?_
    refine lv_ishr hx hb dL_act_3 ?_
    refine lv_bipush (v := (nI 14)) hx hb dL_act_4 (by decide) ?_
    refine kS0 (As := [.int (v >>> ((nI 26) &&& 31)), .int (nI 14)]) (rest := []) hCF hK (c_low l D _ (v >>> ((nI 26) &&& 31)) (nI 14) (by decide)) (va_cwS 2 hts (TBL_S mw_157 mw_158 mw_152 mw_159) rfl rfl rfl pmL_low.2 ⟨Nat.le_of_ble_eq_true rfl, Nat.le_of_ble_eq_true rfl⟩) hS hA rfl hl.1 rfl (Nat.le_of_ble_eq_true rfl) ⟨Nat.le_of_ble_eq_true rfl, Nat.le_of_ble_eq_true rfl⟩ dL_act_6 (fun H locs hS => ?_)
    refine lv_if_ne (tgt := 16) hx hb dL_act_9 (by decide) (fun _ => ?_) (fun c1 => absurd c1 ho)
    refine lv_iconst (v := (nI 0)) hx hb dL_act_16 (by decide) ?_
    refine lv_istore_n (lv' := [(3, .int (nI 0)), (0, .ref (a 0)), (1, .int v), (2, .int e3)]) hx hb dL_act_17 rfl hl (by decide) rfl (fun ls hl => ?_)
    refine lv_iload_n hx hb dL_act_18 rfl (lv_at hl 0 rfl) ?_
    refine lv_if_eq (tgt := 29) hx hb dL_act_19 (by decide) (fun _ => ?_) (fun c1 => absurd (by decide) c1)
    refine lv_iload_n hx hb dL_act_29 rfl (lv_at hl 2 rfl) ?_
    refine lv_bipush (v := (nI 9)) hx hb dL_act_30 (by decide) ?_
    refine lv_ishr hx hb dL_act_32 ?_
    refine lv_iconst (v := (nI 5)) hx hb dL_act_33 (by decide) ?_
    refine kS0 (As := [.int (v >>> ((nI 9) &&& 31)), .int (nI 5)]) (rest := []) hCF hK (c_low l D _ (v >>> ((nI 9) &&& 31)) (nI 5) (by decide)) (va_cwS 2 hts (TBL_S mw_157 mw_158 mw_152 mw_159) rfl rfl rfl pmL_low.2 ⟨Nat.le_of_ble_eq_true rfl, Nat.le_of_ble_eq_true rfl⟩) hS hA rfl hl.1 rfl (Nat.le_of_ble_eq_true rfl) ⟨Nat.le_of_ble_eq_true rfl, Nat.le_of_ble_eq_true rfl⟩ dL_act_34 (fun H locs hS => ?_)
    refine lv_istore (lv' := [(4, .int (lowV (v >>> ((nI 9) &&& 31)) (nI 5))), (3, .int (nI 0)), (0, .ref (a 0)), (1, .int v), (2, .int e3)]) hx hb dL_act_37 hl (by decide) rfl (fun ls hl => ?_)
    refine lv_iload_n hx hb dL_act_39 rfl (lv_at hl 1 rfl) ?_
    refine lv_if_eq (tgt := 57) hx hb dL_act_40 (by decide) (fun _ => ?_) (fun c1 => absurd (by decide) c1)
    refine lv_iload_n hx hb dL_act_57 rfl (lv_at hl 3 rfl) ?_
    refine lv_bipush (v := (nI 6)) hx hb dL_act_58 (by decide) ?_
    refine lv_ishr hx hb dL_act_60 ?_
    refine lv_iconst (v := (nI 5)) hx hb dL_act_61 (by decide) ?_
    refine kS0 (As := [.int (v >>> ((nI 6) &&& 31)), .int (nI 5)]) (rest := []) hCF hK (c_low l D _ (v >>> ((nI 6) &&& 31)) (nI 5) (by decide)) (va_cwS 2 hts (TBL_S mw_157 mw_158 mw_152 mw_159) rfl rfl rfl pmL_low.2 ⟨Nat.le_of_ble_eq_true rfl, Nat.le_of_ble_eq_true rfl⟩) hS hA rfl hl.1 rfl (Nat.le_of_ble_eq_true rfl) ⟨Nat.le_of_ble_eq_true rfl, Nat.le_of_ble_eq_true rfl⟩ dL_act_62 (fun H locs hS => ?_)
    refine lv_istore (lv' := [(5, .int (lowV (v >>> ((nI 6) &&& 31)) (nI 5))), (4, .int (lowV (v >>> ((nI 9) &&& 31)) (nI 5))), (3, .int (nI 0)), (0, .ref (a 0)), (1, .int v), (2, .int e3)]) hx hb dL_act_65 hl (by decide) rfl (fun ls hl => ?_)
    refine lv_iload_n hx hb dL_act_67 rfl (lv_at hl 4 rfl) ?_
    refine lv_bipush (v := (nI 32)) hx hb dL_act_68 (by decide) ?_
    refine kS0 (As := [.int v, .int (nI 32)]) (rest := []) hCF hK (c_low l D _ v (nI 32) (by decide)) (va_cwS 2 hts (TBL_S mw_157 mw_158 mw_152 mw_159) rfl rfl rfl pmL_low.2 ⟨Nat.le_of_ble_eq_true rfl, Nat.le_of_ble_eq_true rfl⟩) hS hA rfl hl.1 rfl (Nat.le_of_ble_eq_true rfl) ⟨Nat.le_of_ble_eq_true rfl, Nat.le_of_ble_eq_true rfl⟩ dL_act_70 (fun H locs hS => ?_)
    refine hsw _ _ _ _ _ _ _ _ _ _ _ _ _ _ hx hb ?_
    exact hg _ _ _ _ _ _ _ _ _ _ _ _ _ _ _ _ _ _ _ _ X0 hfl hE hZ9 hu hS (lv_sub hl [0, 1, 2, 5, 4, 3] rfl) kret
theorem sw_0 {v : Int32} (ej : lowV v (nI 32) = nI 0) : SwGo v 192 := by
  intro p l e R s m9 args below meth c Q9 H locs ls hx hb k
  exact lv_tableIn (tgt := 192) hx hb dL_act_73 (by rw [ej]; decide) (by rw [ej]; decide) (by rw [ej]; rfl) (by decide) k
theorem sw_1 {v : Int32} (ej : lowV v (nI 32) = nI 1) : SwGo v 235 := by
  intro p l e R s m9 args below meth c Q9 H locs ls hx hb k
  exact lv_tableIn (tgt := 235) hx hb dL_act_73 (by rw [ej]; decide) (by rw [ej]; decide) (by rw [ej]; rfl) (by decide) k
theorem sw_2 {v : Int32} (ej : lowV v (nI 32) = nI 2) : SwGo v 301 := by
  intro p l e R s m9 args below meth c Q9 H locs ls hx hb k
  exact lv_tableIn (tgt := 301) hx hb dL_act_73 (by rw [ej]; decide) (by rw [ej]; decide) (by rw [ej]; rfl) (by decide) k
theorem sw_3 {v : Int32} (ej : lowV v (nI 32) = nI 3) : SwGo v 355 := by
  intro p l e R s m9 args below meth c Q9 H locs ls hx hb k
  exact lv_tableIn (tgt := 355) hx hb dL_act_73 (by rw [ej]; decide) (by rw [ej]; decide) (by rw [ej]; rfl) (by decide) k
theorem sw_4 {v : Int32} (ej : lowV v (nI 32) = nI 4) : SwGo v 355 := by
  intro p l e R s m9 args below meth c Q9 H locs ls hx hb k
  exact lv_tableIn (tgt := 355) hx hb dL_act_73 (by rw [ej]; decide) (by rw [ej]; decide) (by rw [ej]; rfl) (by decide) k
theorem sw_5 {v : Int32} (ej : lowV v (nI 32) = nI 5) : SwGo v 395 := by
  intro p l e R s m9 args below meth c Q9 H locs ls hx hb k
  exact lv_tableIn (tgt := 395) hx hb dL_act_73 (by rw [ej]; decide) (by rw [ej]; decide) (by rw [ej]; rfl) (by decide) k
theorem sw_6 {v : Int32} (ej : lowV v (nI 32) = nI 6) : SwGo v 431 := by
  intro p l e R s m9 args below meth c Q9 H locs ls hx hb k
  exact lv_tableIn (tgt := 431) hx hb dL_act_73 (by rw [ej]; decide) (by rw [ej]; decide) (by rw [ej]; rfl) (by decide) k
theorem sw_7 {v : Int32} (ej : lowV v (nI 32) = nI 7) : SwGo v 431 := by
  intro p l e R s m9 args below meth c Q9 H locs ls hx hb k
  exact lv_tableIn (tgt := 431) hx hb dL_act_73 (by rw [ej]; decide) (by rw [ej]; decide) (by rw [ej]; rfl) (by decide) k
theorem sw_8 {v : Int32} (ej : lowV v (nI 32) = nI 8) : SwGo v 431 := by
  intro p l e R s m9 args below meth c Q9 H locs ls hx hb k
  exact lv_tableIn (tgt := 431) hx hb dL_act_73 (by rw [ej]; decide) (by rw [ej]; decide) (by rw [ej]; rfl) (by decide) k
theorem sw_9 {v : Int32} (ej : lowV v (nI 32) = nI 9) : SwGo v 431 := by
  intro p l e R s m9 args below meth c Q9 H locs ls hx hb k
  exact lv_tableIn (tgt := 431) hx hb dL_act_73 (by rw [ej]; decide) (by rw [ej]; decide) (by rw [ej]; rfl) (by decide) k
theorem sw_10 {v : Int32} (ej : lowV v (nI 32) = nI 10) : SwGo v 431 := by
  intro p l e R s m9 args below meth c Q9 H locs ls hx hb k
  exact lv_tableIn (tgt := 431) hx hb dL_act_73 (by rw [ej]; decide) (by rw [ej]; decide) (by rw [ej]; rfl) (by decide) k
theorem sw_11 {v : Int32} (ej : lowV v (nI 32) = nI 11) : SwGo v 431 := by
  intro p l e R s m9 args below meth c Q9 H locs ls hx hb k
  exact lv_tableIn (tgt := 431) hx hb dL_act_73 (by rw [ej]; decide) (by rw [ej]; decide) (by rw [ej]; rfl) (by decide) k
theorem sw_12 {v : Int32} (ej : lowV v (nI 32) = nI 12) : SwGo v 431 := by
  intro p l e R s m9 args below meth c Q9 H locs ls hx hb k
  exact lv_tableIn (tgt := 431) hx hb dL_act_73 (by rw [ej]; decide) (by rw [ej]; decide) (by rw [ej]; rfl) (by decide) k
theorem sw_13 {v : Int32} (ej : lowV v (nI 32) = nI 13) : SwGo v 431 := by
  intro p l e R s m9 args below meth c Q9 H locs ls hx hb k
  exact lv_tableIn (tgt := 431) hx hb dL_act_73 (by rw [ej]; decide) (by rw [ej]; decide) (by rw [ej]; rfl) (by decide) k
theorem sw_14 {v : Int32} (ej : lowV v (nI 32) = nI 14) : SwGo v 431 := by
  intro p l e R s m9 args below meth c Q9 H locs ls hx hb k
  exact lv_tableIn (tgt := 431) hx hb dL_act_73 (by rw [ej]; decide) (by rw [ej]; decide) (by rw [ej]; rfl) (by decide) k
theorem sw_15 {v : Int32} (ej : lowV v (nI 32) = nI 15) : SwGo v 431 := by
  intro p l e R s m9 args below meth c Q9 H locs ls hx hb k
  exact lv_tableIn (tgt := 431) hx hb dL_act_73 (by rw [ej]; decide) (by rw [ej]; decide) (by rw [ej]; rfl) (by decide) k
theorem sw_16 {v : Int32} (ej : lowV v (nI 32) = nI 16) : SwGo v 550 := by
  intro p l e R s m9 args below meth c Q9 H locs ls hx hb k
  exact lv_tableIn (tgt := 550) hx hb dL_act_73 (by rw [ej]; decide) (by rw [ej]; decide) (by rw [ej]; rfl) (by decide) k
theorem sw_17 {v : Int32} (ej : lowV v (nI 32) = nI 17) : SwGo v 550 := by
  intro p l e R s m9 args below meth c Q9 H locs ls hx hb k
  exact lv_tableIn (tgt := 550) hx hb dL_act_73 (by rw [ej]; decide) (by rw [ej]; decide) (by rw [ej]; rfl) (by decide) k
theorem sw_18 {v : Int32} (ej : lowV v (nI 32) = nI 18) : SwGo v 574 := by
  intro p l e R s m9 args below meth c Q9 H locs ls hx hb k
  exact lv_tableIn (tgt := 574) hx hb dL_act_73 (by rw [ej]; decide) (by rw [ej]; decide) (by rw [ej]; rfl) (by decide) k
theorem sw_19 {v : Int32} (ej : lowV v (nI 32) = nI 19) : SwGo v 579 := by
  intro p l e R s m9 args below meth c Q9 H locs ls hx hb k
  exact lv_tableIn (tgt := 579) hx hb dL_act_73 (by rw [ej]; decide) (by rw [ej]; decide) (by rw [ej]; rfl) (by decide) k
theorem sw_20 {v : Int32} (ej : lowV v (nI 32) = nI 20) : SwGo v 602 := by
  intro p l e R s m9 args below meth c Q9 H locs ls hx hb k
  exact lv_tableIn (tgt := 602) hx hb dL_act_73 (by rw [ej]; decide) (by rw [ej]; decide) (by rw [ej]; rfl) (by decide) k
theorem sw_21 {v : Int32} (ej : lowV v (nI 32) = nI 21) : SwGo v 641 := by
  intro p l e R s m9 args below meth c Q9 H locs ls hx hb k
  exact lv_tableIn (tgt := 641) hx hb dL_act_73 (by rw [ej]; decide) (by rw [ej]; decide) (by rw [ej]; rfl) (by decide) k
theorem sw_22 {v : Int32} (ej : lowV v (nI 32) = nI 22) : SwGo v 681 := by
  intro p l e R s m9 args below meth c Q9 H locs ls hx hb k
  exact lv_tableIn (tgt := 681) hx hb dL_act_73 (by rw [ej]; decide) (by rw [ej]; decide) (by rw [ej]; rfl) (by decide) k
theorem sw_23 {v : Int32} (ej : lowV v (nI 32) = nI 23) : SwGo v 757 := by
  intro p l e R s m9 args below meth c Q9 H locs ls hx hb k
  exact lv_tableIn (tgt := 757) hx hb dL_act_73 (by rw [ej]; decide) (by rw [ej]; decide) (by rw [ej]; rfl) (by decide) k
theorem sw_24 {v : Int32} (ej : lowV v (nI 32) = nI 24) : SwGo v 757 := by
  intro p l e R s m9 args below meth c Q9 H locs ls hx hb k
  exact lv_tableIn (tgt := 757) hx hb dL_act_73 (by rw [ej]; decide) (by rw [ej]; decide) (by rw [ej]; rfl) (by decide) k
theorem sw_25 {v : Int32} (ej : lowV v (nI 32) = nI 25) : SwGo v 757 := by
  intro p l e R s m9 args below meth c Q9 H locs ls hx hb k
  exact lv_tableIn (tgt := 757) hx hb dL_act_73 (by rw [ej]; decide) (by rw [ej]; decide) (by rw [ej]; rfl) (by decide) k
theorem sw_26 {v : Int32} (ej : lowV v (nI 32) = nI 26) : SwGo v 797 := by
  intro p l e R s m9 args below meth c Q9 H locs ls hx hb k
  exact lv_tableOut (tgt := 797) hx hb dL_act_73 (by rw [ej]; decide) (by decide) k
theorem sw_27 {v : Int32} (ej : lowV v (nI 32) = nI 27) : SwGo v 797 := by
  intro p l e R s m9 args below meth c Q9 H locs ls hx hb k
  exact lv_tableOut (tgt := 797) hx hb dL_act_73 (by rw [ej]; decide) (by decide) k
theorem sw_28 {v : Int32} (ej : lowV v (nI 32) = nI 28) : SwGo v 797 := by
  intro p l e R s m9 args below meth c Q9 H locs ls hx hb k
  exact lv_tableOut (tgt := 797) hx hb dL_act_73 (by rw [ej]; decide) (by decide) k
theorem sw_29 {v : Int32} (ej : lowV v (nI 32) = nI 29) : SwGo v 797 := by
  intro p l e R s m9 args below meth c Q9 H locs ls hx hb k
  exact lv_tableOut (tgt := 797) hx hb dL_act_73 (by rw [ej]; decide) (by decide) k
theorem sw_30 {v : Int32} (ej : lowV v (nI 32) = nI 30) : SwGo v 797 := by
  intro p l e R s m9 args below meth c Q9 H locs ls hx hb k
  exact lv_tableOut (tgt := 797) hx hb dL_act_73 (by rw [ej]; decide) (by decide) k
theorem sw_31 {v : Int32} (ej : lowV v (nI 32) = nI 31) : SwGo v 797 := by
  intro p l e R s m9 args below meth c Q9 H locs ls hx hb k
  exact lv_tableOut (tgt := 797) hx hb dL_act_73 (by rw [ej]; decide) (by decide) k
theorem act_spec {Z : AS} (hA : okA Z) (v e3 : Int32) : ∃ (r : Int32) (Z2 : AS), (r = -99999999 → Z2 = Z) ∧ ∀ (l : Launch) (D : va_G) (cI cJ : ClassId) (_ : l.stackTraces = false) (a : Nat → Nat) (u : PC) (_ : okU Z u), CtM l D [(cI, .int), (cJ, .long)] yL_act wtL_act rmA [.ref (a 0), .int v, .int e3] (WU cI cJ a u) (WU cI cJ a) (okU Z2) r 2 12 := by
  obtain ⟨j, hj, ej⟩ := lowV_n v (n := 32) (by omega) (by omega)
  have hjj : j = 0 ∨ j = 1 ∨ j = 2 ∨ j = 3 ∨ j = 4 ∨ j = 5 ∨ j = 6 ∨ j = 7 ∨ j = 8 ∨ j = 9 ∨ j = 10 ∨ j = 11 ∨ j = 12 ∨ j = 13 ∨ j = 14 ∨ j = 15 ∨ j = 16 ∨ j = 17 ∨ j = 18 ∨ j = 19 ∨ j = 20 ∨ j = 21 ∨ j = 22 ∨ j = 23 ∨ j = 24 ∨ j = 25 ∨ j = 26 ∨ j = 27 ∨ j = 28 ∨ j = 29 ∨ j = 30 ∨ j = 31 := by omega
  rcases hjj with rfl | rfl | rfl | rfl | rfl | rfl | rfl | rfl | rfl | rfl | rfl | rfl | rfl | rfl | rfl | rfl | rfl | rfl | rfl | rfl | rfl | rfl | rfl | rfl | rfl | rfl | rfl | rfl | rfl | rfl | rfl | rfl
  · obtain ⟨r, Z2, h1, h2⟩ := actc_192 hA v e3 (odV v) (muchV v) (otherV v)
    exact ⟨r, Z2, h1, act_in (sw_0 ej) h2⟩
  · obtain ⟨r, Z2, h1, h2⟩ := actc_235 hA v e3 (odV v) (muchV v) (otherV v)
    exact ⟨r, Z2, h1, act_in (sw_1 ej) h2⟩
  · obtain ⟨r, Z2, h1, h2⟩ := actc_301 hA v e3 (odV v) (muchV v) (otherV v)
    exact ⟨r, Z2, h1, act_in (sw_2 ej) h2⟩
  · obtain ⟨r, Z2, h1, h2⟩ := actc_355 hA v e3 (odV v) (muchV v) (otherV v)
    exact ⟨r, Z2, h1, act_in (sw_3 ej) h2⟩
  · obtain ⟨r, Z2, h1, h2⟩ := actc_355 hA v e3 (odV v) (muchV v) (otherV v)
    exact ⟨r, Z2, h1, act_in (sw_4 ej) h2⟩
  · obtain ⟨r, Z2, h1, h2⟩ := actc_395 hA v e3 (odV v) (muchV v) (otherV v)
    exact ⟨r, Z2, h1, act_in (sw_5 ej) h2⟩
  · obtain ⟨r, Z2, h1, h2⟩ := actc_431 hA v e3 (odV v) (muchV v) (otherV v)
    exact ⟨r, Z2, h1, act_in (sw_6 ej) h2⟩
  · obtain ⟨r, Z2, h1, h2⟩ := actc_431 hA v e3 (odV v) (muchV v) (otherV v)
    exact ⟨r, Z2, h1, act_in (sw_7 ej) h2⟩
  · obtain ⟨r, Z2, h1, h2⟩ := actc_431 hA v e3 (odV v) (muchV v) (otherV v)
    exact ⟨r, Z2, h1, act_in (sw_8 ej) h2⟩
  · obtain ⟨r, Z2, h1, h2⟩ := actc_431 hA v e3 (odV v) (muchV v) (otherV v)
    exact ⟨r, Z2, h1, act_in (sw_9 ej) h2⟩
  · obtain ⟨r, Z2, h1, h2⟩ := actc_431 hA v e3 (odV v) (muchV v) (otherV v)
    exact ⟨r, Z2, h1, act_in (sw_10 ej) h2⟩
  · obtain ⟨r, Z2, h1, h2⟩ := actc_431 hA v e3 (odV v) (muchV v) (otherV v)
    exact ⟨r, Z2, h1, act_in (sw_11 ej) h2⟩
  · obtain ⟨r, Z2, h1, h2⟩ := actc_431 hA v e3 (odV v) (muchV v) (otherV v)
    exact ⟨r, Z2, h1, act_in (sw_12 ej) h2⟩
  · obtain ⟨r, Z2, h1, h2⟩ := actc_431 hA v e3 (odV v) (muchV v) (otherV v)
    exact ⟨r, Z2, h1, act_in (sw_13 ej) h2⟩
  · obtain ⟨r, Z2, h1, h2⟩ := actc_431 hA v e3 (odV v) (muchV v) (otherV v)
    exact ⟨r, Z2, h1, act_in (sw_14 ej) h2⟩
  · obtain ⟨r, Z2, h1, h2⟩ := actc_431 hA v e3 (odV v) (muchV v) (otherV v)
    exact ⟨r, Z2, h1, act_in (sw_15 ej) h2⟩
  · obtain ⟨r, Z2, h1, h2⟩ := actc_550 hA v e3 (odV v) (muchV v) (otherV v)
    exact ⟨r, Z2, h1, act_in (sw_16 ej) h2⟩
  · obtain ⟨r, Z2, h1, h2⟩ := actc_550 hA v e3 (odV v) (muchV v) (otherV v)
    exact ⟨r, Z2, h1, act_in (sw_17 ej) h2⟩
  · obtain ⟨r, Z2, h1, h2⟩ := actc_574 hA v e3 (odV v) (muchV v) (otherV v)
    exact ⟨r, Z2, h1, act_in (sw_18 ej) h2⟩
  · obtain ⟨r, Z2, h1, h2⟩ := actc_579 hA v e3 (odV v) (muchV v) (otherV v)
    exact ⟨r, Z2, h1, act_in (sw_19 ej) h2⟩
  · obtain ⟨r, Z2, h1, h2⟩ := actc_602 hA v e3 (odV v) (muchV v) (otherV v)
    exact ⟨r, Z2, h1, act_in (sw_20 ej) h2⟩
  · obtain ⟨r, Z2, h1, h2⟩ := actc_641 hA v e3 (odV v) (muchV v) (otherV v)
    exact ⟨r, Z2, h1, act_in (sw_21 ej) h2⟩
  · obtain ⟨r, Z2, h1, h2⟩ := actc_681 hA v e3 (odV v) (muchV v) (otherV v)
    exact ⟨r, Z2, h1, act_in (sw_22 ej) h2⟩
  · obtain ⟨r, Z2, h1, h2⟩ := actc_757 hA v e3 (odV v) (muchV v) (otherV v)
    exact ⟨r, Z2, h1, act_in (sw_23 ej) h2⟩
  · obtain ⟨r, Z2, h1, h2⟩ := actc_757 hA v e3 (odV v) (muchV v) (otherV v)
    exact ⟨r, Z2, h1, act_in (sw_24 ej) h2⟩
  · obtain ⟨r, Z2, h1, h2⟩ := actc_757 hA v e3 (odV v) (muchV v) (otherV v)
    exact ⟨r, Z2, h1, act_in (sw_25 ej) h2⟩
  · obtain ⟨r, Z2, h1, h2⟩ := actc_797 hA v e3 (odV v) (muchV v) (otherV v)
    exact ⟨r, Z2, h1, act_in (sw_26 ej) h2⟩
  · obtain ⟨r, Z2, h1, h2⟩ := actc_797 hA v e3 (odV v) (muchV v) (otherV v)
    exact ⟨r, Z2, h1, act_in (sw_27 ej) h2⟩
  · obtain ⟨r, Z2, h1, h2⟩ := actc_797 hA v e3 (odV v) (muchV v) (otherV v)
    exact ⟨r, Z2, h1, act_in (sw_28 ej) h2⟩
  · obtain ⟨r, Z2, h1, h2⟩ := actc_797 hA v e3 (odV v) (muchV v) (otherV v)
    exact ⟨r, Z2, h1, act_in (sw_29 ej) h2⟩
  · obtain ⟨r, Z2, h1, h2⟩ := actc_797 hA v e3 (odV v) (muchV v) (otherV v)
    exact ⟨r, Z2, h1, act_in (sw_30 ej) h2⟩
  · obtain ⟨r, Z2, h1, h2⟩ := actc_797 hA v e3 (odV v) (muchV v) (otherV v)
    exact ⟨r, Z2, h1, act_in (sw_31 ej) h2⟩
