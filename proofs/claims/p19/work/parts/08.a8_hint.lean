/-! ===== isHinted; written by program out of the bytecode ===== -/
abbrev wtL_isHinted : List Cond := Cond.code yL_isHinted cL_isHinted 4 (some .boolean) :: TBL
abbrev rmH : Room := { frames := 8, cells := 7, slots := 42, locals := 200 }
theorem legal_arg {Z : AS} (hA : okA Z) {f t n : Nat} (hf : f < 10) (ht : t < 9) (hn : 1 ≤ n) (hn16 : n ≤ 16) (h1 : n = 1 ∨ (f < 5 ∧ t < 5)) (h8 : f ≠ 8) (hl : legal Z.2.1 (cur Z.2.2.1) f t n = true) (hd : Z.2.2.1.length ≤ 200) : okArg (nI f) (nI t) (nI n) = true ∧ okDo Z (nI f) (nI t) (nI n) = true := by
  have hft : ¬ f = t := by
    intro z
    subst z
    have := legal_same hA.wf.1 hl
    omega
  constructor
  · unfold okArg
    rw [inB_nI (by omega) (by omega) (by omega), inB_nI (by omega) (by omega) (by omega), inB_nI hn hn16 (by omega), decide_eq_true (show ¬ nI f = nI 8 by rw [nI_eq (by omega) (by omega)]; exact h8), decide_eq_true (show ¬ nI f = nI t by rw [nI_eq (by omega) (by omega)]; exact hft)]
    rcases h1 with z | ⟨z1, z2⟩
    · subst z; rfl
    · rw [decide_eq_true (show ¬ nI 5 ≤ nI f from nI_ge z1 (by omega)), decide_eq_true (show ¬ nI 5 ≤ nI t from nI_ge z2 (by omega))]
      cases decide (nI n = nI 1) <;> rfl
  · unfold okDo
    rw [nV_nI (by omega), nV_nI (by omega), nV_nI (by omega), hl, Bool.and_true, decide_eq_true_eq]
    have := hA.2.2.1
    omega
theorem move_val {Z : AS} {f t n : Nat} (hf : f < 10) (ht : t < 9) (hn16 : n ≤ 16) (h : okArg (nI f) (nI t) (nI n) = true ∧ okDo Z (nI f) (nI t) (nI n) = true) : aMove Z (nI f) (nI t) (nI n) = (0, nI (upN (playP Z.2.1 (cur Z.2.2.1) f t n)), (Z.1, Z.2.1, Z.2.2.1 ++ [playP Z.2.1 (cur Z.2.2.1) f t n], Z.2.2.2)) := by
  unfold aMove
  rw [if_pos h.1, if_pos h.2]
  unfold afterMove
  rw [nV_nI (by omega), nV_nI (by omega), nV_nI (by omega)]
theorem undo_val {Z : AS} {l : List Pos} {P : Pos} (hl : 1 ≤ l.length) (e : Z.2.2.1 = l ++ [P]) : aUndo Z (nI 1) = (0, nI 1, (Z.1, Z.2.1, l, Z.2.2.2.1 + 1, Z.2.2.2.2)) := by
  have hb : backN Z (nI 1) = 1 := by
    unfold backN
    rw [nV_nI (by omega), e, List.length_append, List.length_singleton]
    by_cases q : l.length + 1 - 1 ≤ 1
    · rw [if_pos q]; omega
    · rw [if_neg q]
  unfold aUndo
  rw [if_pos (inB_nI (by omega) (by omega) (by omega)), hb, e, List.length_append, List.length_singleton, show l.length + 1 - 1 - 1 + 1 = l.length by omega, List.take_left']
  rfl
set_option maxHeartbeats 4000000 in
set_option maxRecDepth 100000 in
theorem hint_ok (l : Launch) (D : va_G) (cI cJ : ClassId) (hfl : l.stackTraces = false) (a : Nat → Nat) {Z : AS} {u : PC} (hu : okU Z u) (hd : Z.2.2.1.length ≤ 200) : CtM l D [(cI, .int), (cJ, .long)] yL_isHinted wtL_isHinted rmH [.ref (a 0)] (WU cI cJ a u) (WU cI cJ a) (fun _ => True) (nI 1) 7 42 := by
  refine CtM.ofZ (cc := cL_isHinted) (maxL := 4) rfl (by decide) rfl (Nat.le_of_ble_eq_true rfl) (Or.inr rfl) ?_
  intro p e s m9 args below meth c A H0 Q9 ls X hE hZ9 hS hl kret
  have hZ := hu.1
  have hCF := X.1
  obtain ⟨⟨hx, hb, hml, hown, hts⟩, hK, hA⟩ := X
  have hl : lv_has ls 4 [(0, .ref (a 0))] := hl
  replace hS : HS D A H0 (WU cI cJ a u ++ []) H0 [] := hS.cast (List.append_nil _).symm
  refine lv_aload_n hx hb dL_isHinted_0 rfl (lv_at hl 0 rfl) ?_
  refine lv_bipush (v := (nI 100)) hx hb dL_isHinted_1 (by decide) ?_
  refine dX_search hCF hK hA hfl hE hZ9 (nI 100) (cwV 1 hts (TBL_V mw_403 mw_404 mw_405 mw_2 mw_406) rfl rfl rfl pmX5_search ⟨Nat.le_of_ble_eq_true rfl, Nat.le_of_ble_eq_true rfl⟩) hu hS hl.1 (Nat.le_of_ble_eq_true rfl) ⟨Nat.le_of_ble_eq_true rfl, Nat.le_of_ble_eq_true rfl⟩ dL_isHinted_3 (fun H locs q9 ce u' hth _ _ _ _ _ => absurd hth (by rw [(search_0 Z (by omega) (by omega))]; omega)) (fun H locs u _ hu hS => ?_)
  refine lv_istore_n (lv' := [(1, .int (aSearch Z (nI 100)).2.1), (0, .ref (a 0))]) hx hb dL_isHinted_6 rfl hl (by decide) rfl (fun ls hl => ?_)
  refine lv_aload_n hx hb dL_isHinted_7 rfl (lv_at hl 1 rfl) ?_
  refine dX_hint hCF hK hA (cwV 0 hts (TBL_V mw_511 mw_512 mw_513 mw_2 mw_514) rfl rfl rfl pmX5_hint ⟨Nat.le_of_ble_eq_true rfl, Nat.le_of_ble_eq_true rfl⟩) hu hS hl.1 (Nat.le_of_ble_eq_true rfl) ⟨Nat.le_of_ble_eq_true rfl, Nat.le_of_ble_eq_true rfl⟩ dL_isHinted_8 (fun H locs u hu hS => ?_)
  refine lv_istore_n (lv' := [(2, .int (aHint Z).2.1), (1, .int (aSearch Z (nI 100)).2.1), (0, .ref (a 0))]) hx hb dL_isHinted_11 rfl hl (by decide) rfl (fun ls hl => ?_)
  refine lv_iload_n hx hb dL_isHinted_12 rfl (lv_at hl 0 rfl) ?_
  rcases hintA_spec Z.2.1 (cur Z.2.2.1) with hv | ⟨hq, f, t, n, hv, b1, b2, b3, b4, b5, b6, b7, b8⟩
  · replace hv : (aHint Z).2.1 = -1 := hv
    refine lv_if_ge (tgt := 18) hx hb dL_isHinted_13 (by decide) (fun c1 => absurd c1 (by rw [hv]; decide)) (fun _ => ?_)
    refine lv_iconst (v := (nI 1)) hx hb dL_isHinted_16 (by decide) ?_
    refine W.widen (k := 7) (n := 42) (Nat.le_of_ble_eq_true rfl) (Nat.le_of_ble_eq_true rfl) ?_
    rw [List.append_nil] at hS
    exact kret _ _ _ _ _ u rfl trivial hS dL_isHinted_17
  · replace hv : (aHint Z).2.1 = nI (codeN f t n) := hv
    have hsv : (aSearch Z (nI 100)).2.1 = (searchA Z.2.1 100 (cur Z.2.2.1)).1 := by rw [search_val Z (by omega) (by omega)]
    have ha := legal_arg hZ b1 b2 b3 b4 b5 b6 b7 hd
    have em := move_val b1 b2 b4 ha
    have hwf : WF Z.2.1 (playP Z.2.1 (cur Z.2.2.1) f t n) := wf_play hZ.wf hZ.2.1 b3 b5 b7
    have hup := upN_le hwf hZ.2.1
    have hR2 := hZ.2.1
    unfold RulesOk at hR2
    have hlen := hZ.2.2.1
    have hm : ansA (aMove Z (nI f) (nI t) (nI n)) = nI (upN (playP Z.2.1 (cur Z.2.2.1) f t n)) := by rw [em]; rfl
    obtain ⟨Z1, eZ1⟩ : ∃ Z1, Z1 = (aMove Z (nI f) (nI t) (nI n)).2.2 := ⟨_, rfl⟩
    have eZ1' : Z1 = (Z.1, Z.2.1, Z.2.2.1 ++ [playP Z.2.1 (cur Z.2.2.1) f t n], Z.2.2.2) := by rw [eZ1, em]
    obtain ⟨Z2, eZ2⟩ : ∃ Z2 : AS, Z2 = (Z1.1, Z1.2.1, Z.2.2.1, Z1.2.2.2.1 + 1, Z1.2.2.2.2) := ⟨_, rfl⟩
    have hun : aUndo Z1 (nI 1) = (0, nI 1, Z2) := by rw [eZ2]; exact undo_val hlen (by rw [eZ1'])
    have hs1 : (aSearch Z1 (nI 100)).2.1 = (searchA Z.2.1 100 (cur Z.2.2.1)).1 - nI 1 := by
      rw [search_val Z1 (by omega) (by omega), eZ1']
      show (searchA Z.2.1 100 (cur (Z.2.2.1 ++ [playP Z.2.1 (cur Z.2.2.1) f t n]))).1 = _
      rw [show cur (Z.2.2.1 ++ [playP Z.2.1 (cur Z.2.2.1) f t n]) = playP Z.2.1 (cur Z.2.2.1) f t n by unfold cur; rw [List.getLast?_append]; rfl]
      exact b8
    have hs2 : (aSearch Z2 (nI 100)).2.1 = (searchA Z.2.1 100 (cur Z.2.2.1)).1 := by
      rw [search_val Z2 (by omega) (by omega), eZ2, eZ1']
    have hge : ¬ (searchA Z.2.1 100 (cur Z.2.2.1)).1 ≤ 0 := by
      rw [Int32.le_iff_toInt_le] at hq ⊢
      rw [nI_toInt (by omega)] at hq
      rw [show (0 : Int32).toInt = 0 by decide]
      omega
    refine lv_if_ge (tgt := 18) hx hb dL_isHinted_13 (by decide) (fun _ => ?_) (fun c1 => absurd (by rw [hv]; exact nI_pos' (by unfold codeN; omega)) c1)
    refine lv_iload_n hx hb dL_isHinted_18 rfl (lv_at hl 1 rfl) ?_
    refine lv_if_le (tgt := 72) hx hb dL_isHinted_19 (by decide) (fun c1 => absurd c1 (by rw [hsv]; exact hge)) (fun _ => ?_)
    refine lv_aload_n hx hb dL_isHinted_22 rfl (lv_at hl 2 rfl) ?_
    refine lv_iconst (v := (nI 1)) hx hb dL_isHinted_23 (by decide) ?_
    refine dX_told hCF hK hA hfl hE hZ9 (nI 1) (cwV 1 hts (TBL_V mw_462 mw_463 mw_464 mw_2 mw_465) rfl rfl rfl pmX5_told ⟨Nat.le_of_ble_eq_true rfl, Nat.le_of_ble_eq_true rfl⟩) hu hS hl.1 (Nat.le_of_ble_eq_true rfl) ⟨Nat.le_of_ble_eq_true rfl, Nat.le_of_ble_eq_true rfl⟩ dL_isHinted_24 (fun H locs q9 ce u' hth _ _ _ _ _ => absurd hth (by rw [(told_0 Z (by omega))]; omega)) (fun H locs u _ hu hS => ?_)
    refine lv_sipush (v := (nI 200)) hx hb dL_isHinted_27 (by decide) ?_
    refine lv_icmp_ge (tgt := 72) hx hb dL_isHinted_30 (by decide) (fun c1 => absurd c1 (by rw [done_told]; exact nI_ge (by omega) (by omega))) (fun _ => ?_)
    refine lv_aload_n hx hb dL_isHinted_33 rfl (lv_at hl 2 rfl) ?_
    refine lv_iload_n hx hb dL_isHinted_34 rfl (lv_at hl 0 rfl) ?_
    refine lv_sipush (v := (nI 1000)) hx hb dL_isHinted_35 (by decide) ?_
    refine lv_idiv hx hb dL_isHinted_38 (by decide) ?_
    refine lv_iload_n hx hb dL_isHinted_39 rfl (lv_at hl 0 rfl) ?_
    refine lv_bipush (v := (nI 100)) hx hb dL_isHinted_40 (by decide) ?_
    refine lv_idiv hx hb dL_isHinted_42 (by decide) ?_
    refine lv_bipush (v := (nI 10)) hx hb dL_isHinted_43 (by decide) ?_
    refine lv_irem hx hb dL_isHinted_45 (by decide) ?_
    refine lv_iload_n hx hb dL_isHinted_46 rfl (lv_at hl 0 rfl) ?_
    refine lv_bipush (v := (nI 100)) hx hb dL_isHinted_47 (by decide) ?_
    refine lv_irem hx hb dL_isHinted_49 (by decide) ?_
    rw [hv, code_div b1 b2 b4, code_mid b1 b2 b4, code_low b1 b2 b4]
    refine kU (As := [.ref (a 0), .int (nI f), .int (nI t), .int (nI n)]) (rest := []) hCF hK hE hZ9 (hA_move l D cI cJ hfl a hu (nI f) (nI t) (nI n)) (vx_cwSW 4 hts (TBL_SWc mw_315 mw_316 mw_152 mw_317) rfl rfl rfl pmL_move.2 ⟨Nat.le_of_ble_eq_true rfl, Nat.le_of_ble_eq_true rfl⟩) hS hA rfl hl.1 rfl (Nat.le_of_ble_eq_true rfl) ⟨Nat.le_of_ble_eq_true rfl, Nat.le_of_ble_eq_true rfl⟩ dL_isHinted_50 (fun H locs u hu hS => ?_)
    refine lv_if_lt (tgt := 72) hx hb dL_isHinted_53 (by decide) (fun c1 => absurd c1 (by rw [hm]; exact nI_pos (by omega))) (fun _ => ?_)
    replace hu : okU Z1 u := by rw [eZ1]; exact hu
    refine lv_aload_n hx hb dL_isHinted_56 rfl (lv_at hl 2 rfl) ?_
    refine lv_bipush (v := (nI 100)) hx hb dL_isHinted_57 (by decide) ?_
    refine dX_search hCF hK hA hfl hE hZ9 (nI 100) (cwV 1 hts (TBL_V mw_403 mw_404 mw_405 mw_2 mw_406) rfl rfl rfl pmX5_search ⟨Nat.le_of_ble_eq_true rfl, Nat.le_of_ble_eq_true rfl⟩) hu hS hl.1 (Nat.le_of_ble_eq_true rfl) ⟨Nat.le_of_ble_eq_true rfl, Nat.le_of_ble_eq_true rfl⟩ dL_isHinted_59 (fun H locs q9 ce u' hth _ _ _ _ _ => absurd hth (by rw [(search_0 Z1 (by omega) (by omega))]; omega)) (fun H locs u _ hu hS => ?_)
    refine lv_iload_n hx hb dL_isHinted_62 rfl (lv_at hl 1 rfl) ?_
    refine lv_iconst (v := (nI 1)) hx hb dL_isHinted_63 (by decide) ?_
    refine lv_isub hx hb dL_isHinted_64 ?_
    refine lv_icmp_ne (tgt := 72) hx hb dL_isHinted_65 (by decide) (fun c1 => absurd (by rw [hs1, hsv]) c1) (fun _ => ?_)
    refine lv_iconst (v := (nI 1)) hx hb dL_isHinted_68 (by decide) ?_
    refine lv_goto (tgt := 73) hx hb dL_isHinted_69 (by decide) ?_
    refine lv_istore_n (lv' := [(3, .int (nI 1)), (2, .int (aHint Z).2.1), (1, .int (aSearch Z (nI 100)).2.1), (0, .ref (a 0))]) hx hb dL_isHinted_73 rfl hl (by decide) rfl (fun ls hl => ?_)
    refine lv_iload_n hx hb dL_isHinted_74 rfl (lv_at hl 0 rfl) ?_
    refine lv_if_eq (tgt := 101) hx hb dL_isHinted_75 (by decide) (fun c1 => absurd c1 (by decide)) (fun _ => ?_)
    refine lv_aload_n hx hb dL_isHinted_78 rfl (lv_at hl 3 rfl) ?_
    refine lv_iconst (v := (nI 1)) hx hb dL_isHinted_79 (by decide) ?_
    refine dX_undo hCF hK hA hfl hE hZ9 (nI 1) (cwV 1 hts (TBL_V mw_366 mw_367 mw_368 mw_2 mw_369) rfl rfl rfl pmX5_undo ⟨Nat.le_of_ble_eq_true rfl, Nat.le_of_ble_eq_true rfl⟩) hu hS hl.1 (Nat.le_of_ble_eq_true rfl) ⟨Nat.le_of_ble_eq_true rfl, Nat.le_of_ble_eq_true rfl⟩ dL_isHinted_80 (fun H locs q9 ce u' hth _ _ _ _ _ => absurd hth (by rw [(show (aUndo Z1 (nI 1)).1 = 0 by rw [hun])]; omega)) (fun H locs u _ hu hS => ?_)
    refine lv_iconst (v := (nI 1)) hx hb dL_isHinted_83 (by decide) ?_
    refine lv_icmp_ne (tgt := 101) hx hb dL_isHinted_84 (by decide) (fun c1 => absurd (by rw [hun]) c1) (fun _ => ?_)
    replace hu : okU Z2 u := by rw [hun] at hu; exact hu
    refine lv_aload_n hx hb dL_isHinted_87 rfl (lv_at hl 3 rfl) ?_
    refine lv_bipush (v := (nI 100)) hx hb dL_isHinted_88 (by decide) ?_
    refine dX_search hCF hK hA hfl hE hZ9 (nI 100) (cwV 1 hts (TBL_V mw_403 mw_404 mw_405 mw_2 mw_406) rfl rfl rfl pmX5_search ⟨Nat.le_of_ble_eq_true rfl, Nat.le_of_ble_eq_true rfl⟩) hu hS hl.1 (Nat.le_of_ble_eq_true rfl) ⟨Nat.le_of_ble_eq_true rfl, Nat.le_of_ble_eq_true rfl⟩ dL_isHinted_90 (fun H locs q9 ce u' hth _ _ _ _ _ => absurd hth (by rw [(search_0 Z2 (by omega) (by omega))]; omega)) (fun H locs u _ hu hS => ?_)
    refine lv_iload_n hx hb dL_isHinted_93 rfl (lv_at hl 2 rfl) ?_
    refine lv_icmp_ne (tgt := 101) hx hb dL_isHinted_94 (by decide) (fun c1 => absurd (by rw [hs2, hsv]) c1) (fun _ => ?_)
    refine lv_iconst (v := (nI 1)) hx hb dL_isHinted_97 (by decide) ?_
    refine lv_goto (tgt := 102) hx hb dL_isHinted_98 (by decide) ?_
    refine W.widen (k := 7) (n := 42) (Nat.le_of_ble_eq_true rfl) (Nat.le_of_ble_eq_true rfl) ?_
    rw [List.append_nil] at hS
    exact kret _ _ _ _ _ u rfl trivial hS dL_isHinted_102
