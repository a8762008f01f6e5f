set_option maxHeartbeats 4000000 in
set_option maxRecDepth 100000 in
theorem c_X6_store_known (l : Launch) (D : va_G) (cI cJ : ClassId) (h_0 h_0_of h_0_kept h_0_column h_0_size h_0_hidden h_0_cell h_0_home h_0_waste h_0_stock h_0_past h_0_start h_0_known h_0_sorted h_0_row h_0_best : Nat) (I_0 : Nat → Nat → Int32) (L_0 : Nat → Nat → Int64) (v2 : Int32) (r_L_0 : Nat → Nat → Int64) (hF : F_X6_store I_0 3 3216 L_0 v2 = some r_L_0) : CtV l D [(cI, .int), (cJ, .long)] yX6_store wtX6_store ({ frames := 0, cells := 0, slots := 0, locals := 0 } : Room) [.ref h_0, .ref h_0_known, .int v2] [(h_0, oX6 h_0_of h_0_kept h_0_column h_0_size h_0_hidden h_0_cell h_0_home h_0_waste h_0_stock h_0_past h_0_start h_0_known h_0_sorted h_0_row h_0_best I_0), (h_0_of, eI cI 9 (I_0 1)), (h_0_kept, eI cI 9 (I_0 2)), (h_0_column, eJ cJ 5 (L_0 0)), (h_0_size, eI cI 5 (I_0 3)), (h_0_hidden, eI cI 5 (I_0 4)), (h_0_cell, eI cI 2 (I_0 5)), (h_0_home, eI cI 4 (I_0 6)), (h_0_waste, eI cI 8 (I_0 7)), (h_0_stock, eI cI 8 (I_0 8)), (h_0_past, eJ cJ 1616 (L_0 1)), (h_0_start, eJ cJ 8 (L_0 2)), (h_0_known, eJ cJ 3216 (L_0 3)), (h_0_sorted, eJ cJ 3216 (L_0 4)), (h_0_row, eI cI 16 (I_0 9)), (h_0_best, eJ cJ 8 (L_0 5))] [(h_0, oX6 h_0_of h_0_kept h_0_column h_0_size h_0_hidden h_0_cell h_0_home h_0_waste h_0_stock h_0_past h_0_start h_0_known h_0_sorted h_0_row h_0_best I_0), (h_0_of, eI cI 9 (I_0 1)), (h_0_kept, eI cI 9 (I_0 2)), (h_0_column, eJ cJ 5 (r_L_0 0)), (h_0_size, eI cI 5 (I_0 3)), (h_0_hidden, eI cI 5 (I_0 4)), (h_0_cell, eI cI 2 (I_0 5)), (h_0_home, eI cI 4 (I_0 6)), (h_0_waste, eI cI 8 (I_0 7)), (h_0_stock, eI cI 8 (I_0 8)), (h_0_past, eJ cJ 1616 (r_L_0 1)), (h_0_start, eJ cJ 8 (r_L_0 2)), (h_0_known, eJ cJ 3216 (r_L_0 3)), (h_0_sorted, eJ cJ 3216 (r_L_0 4)), (h_0_row, eI cI 16 (I_0 9)), (h_0_best, eJ cJ 8 (r_L_0 5))] := by
  refine CtV.of (cc := cX6_store) (maxL := 10) (by decide) rfl (Nat.le_of_ble_eq_true rfl) ?_
  intro p e s m args below meth c A H0 Q ls X hS hl kret
  have hCF := X.1
  obtain ⟨⟨hx, hb, hml, hown, hts⟩, hK, hA⟩ := X
  have hl : lv_has ls 10 [(0, .ref h_0), (1, .ref h_0_known), (2, .int v2)] := hl
  have q0 := hts (.fieldLink RX6 120 "PatienceryModel" "left" "I") (List.mem_cons_of_mem _ mw_190)
  have inX6 : ∀ w ∈ u_ws RX6 TX6 32, w ∈ wtX6_store := fun w h => List.mem_cons_of_mem _ (inlX6 w h)
  have q2 := hts (.fieldLink RX6 51 "PatienceryModel" "stock" "[I") (List.mem_cons_of_mem _ mw_169)
  have q3 := hts (.fieldLink RX6 117 "PatienceryModel" "wasted" "I") (List.mem_cons_of_mem _ mw_195)
  have q4 := hts (.fieldLink RX6 48 "PatienceryModel" "waste" "[I") (List.mem_cons_of_mem _ mw_168)
  have q5 := hts (.fieldLink RX6 45 "PatienceryModel" "home" "[I") (List.mem_cons_of_mem _ mw_167)
  have q6 := hts (.fieldLink RX6 42 "PatienceryModel" "cell" "[I") (List.mem_cons_of_mem _ mw_166)
  have q7 := hts (.fieldLink RX6 123 "PatienceryModel" "turned" "I") (List.mem_cons_of_mem _ mw_196)
  have q8 := hts (.fieldLink RX6 32 "PatienceryModel" "column" "[J") (List.mem_cons_of_mem _ mw_163)
  have q9 := hts (.fieldLink RX6 36 "PatienceryModel" "size" "[I") (List.mem_cons_of_mem _ mw_164)
  have q10 := hts (.fieldLink RX6 39 "PatienceryModel" "hidden" "[I") (List.mem_cons_of_mem _ mw_165)
  have B241 : ∀ (L_0 : Nat → Nat → Int64) (v2 : Int32) (v7 : Int64) (H : Heap) (locs : List Loc) (ls : Array Slot), HS D A H0 [(h_0, oX6 h_0_of h_0_kept h_0_column h_0_size h_0_hidden h_0_cell h_0_home h_0_waste h_0_stock h_0_past h_0_start h_0_known h_0_sorted h_0_row h_0_best I_0), (h_0_of, eI cI 9 (I_0 1)), (h_0_kept, eI cI 9 (I_0 2)), (h_0_column, eJ cJ 5 (L_0 0)), (h_0_size, eI cI 5 (I_0 3)), (h_0_hidden, eI cI 5 (I_0 4)), (h_0_cell, eI cI 2 (I_0 5)), (h_0_home, eI cI 4 (I_0 6)), (h_0_waste, eI cI 8 (I_0 7)), (h_0_stock, eI cI 8 (I_0 8)), (h_0_past, eJ cJ 1616 (L_0 1)), (h_0_start, eJ cJ 8 (L_0 2)), (h_0_known, eJ cJ 3216 (L_0 3)), (h_0_sorted, eJ cJ 3216 (L_0 4)), (h_0_row, eI cI 16 (I_0 9)), (h_0_best, eJ cJ 8 (L_0 5))] H locs → lv_has ls 10 [(1, .ref h_0_known), (2, .int v2), (7, .long v7)] → F_X6_store_b241 I_0 3 3216  L_0 v2 v7 = some r_L_0 → W p l e ({ frames := 0, cells := 0, slots := 0, locals := 0 } : Room) s m args below meth c H locs 0 0 Q (F0 m 241 ls []) := by
    intro L_0 v2 v7 H locs ls hS hl hF
    unfold F_X6_store_b241 at hF
    refine lv_aload_n hx hb dX6_store_241 rfl (lv_at hl 0 rfl) ?_
    refine lv_iload_n hx hb dX6_store_242 rfl (lv_at hl 1 rfl) ?_
    refine lv_bipush (v := (nI 7)) hx hb dX6_store_243 (by decide) ?_
    refine lv_iadd hx hb dX6_store_245 ?_
    refine lv_lload hx hb dX6_store_246 (lv_at hl 2 rfl) ?_
    replace hF := wrJ_e hF
    obtain ⟨hi2, L_0u1, eL_0u1, hF⟩ := hF
    refine r_last (w2 := [(h_0, oX6 h_0_of h_0_kept h_0_column h_0_size h_0_hidden h_0_cell h_0_home h_0_waste h_0_stock h_0_past h_0_start h_0_known h_0_sorted h_0_row h_0_best I_0), (h_0_of, eI cI 9 (I_0 1)), (h_0_kept, eI cI 9 (I_0 2)), (h_0_column, eJ cJ 5 (L_0u1 0)), (h_0_size, eI cI 5 (I_0 3)), (h_0_hidden, eI cI 5 (I_0 4)), (h_0_cell, eI cI 2 (I_0 5)), (h_0_home, eI cI 4 (I_0 6)), (h_0_waste, eI cI 8 (I_0 7)), (h_0_stock, eI cI 8 (I_0 8)), (h_0_past, eJ cJ 1616 (L_0u1 1)), (h_0_start, eJ cJ 8 (L_0u1 2)), (h_0_known, eJ cJ 3216 (L_0u1 3)), (h_0_sorted, eJ cJ 3216 (L_0u1 4)), (h_0_row, eI cI 16 (I_0 9)), (h_0_best, eJ cJ 8 (L_0u1 5))]) hx hb hK hS 12 rfl rfl hi2 dX6_store_248 (by rw [eL_0u1]; rfl) (fun H locs hS => ?_)
    have e9_0 := Option.some.inj hF
    subst e9_0
    exact kret _ _ _ _ hS dX6_store_249
  have B232 : ∀ (K163 : (Nat → Nat → Int64) → Int32 → Int64 → Int32 → Option ((Nat → Nat → Int64))) (_ : ∀ (L_0 : Nat → Nat → Int64) (v2 : Int32) (v7 : Int64) (v9 : Int32) (H : Heap) (locs : List Loc) (ls : Array Slot), HS D A H0 [(h_0, oX6 h_0_of h_0_kept h_0_column h_0_size h_0_hidden h_0_cell h_0_home h_0_waste h_0_stock h_0_past h_0_start h_0_known h_0_sorted h_0_row h_0_best I_0), (h_0_of, eI cI 9 (I_0 1)), (h_0_kept, eI cI 9 (I_0 2)), (h_0_column, eJ cJ 5 (L_0 0)), (h_0_size, eI cI 5 (I_0 3)), (h_0_hidden, eI cI 5 (I_0 4)), (h_0_cell, eI cI 2 (I_0 5)), (h_0_home, eI cI 4 (I_0 6)), (h_0_waste, eI cI 8 (I_0 7)), (h_0_stock, eI cI 8 (I_0 8)), (h_0_past, eJ cJ 1616 (L_0 1)), (h_0_start, eJ cJ 8 (L_0 2)), (h_0_known, eJ cJ 3216 (L_0 3)), (h_0_sorted, eJ cJ 3216 (L_0 4)), (h_0_row, eI cI 16 (I_0 9)), (h_0_best, eJ cJ 8 (L_0 5))] H locs → lv_has ls 10 [(0, .ref h_0), (1, .ref h_0_known), (2, .int v2), (7, .long v7), (9, .int v9)] → K163 L_0 v2 v7 v9 = some r_L_0 → W p l e ({ frames := 0, cells := 0, slots := 0, locals := 0 } : Room) s m args below meth c H locs 0 0 Q (F0 m 163 ls [])) (L_0 : Nat → Nat → Int64) (v2 : Int32) (v9 : Int32) (s0 : Int64) (s1 : Int64) (H : Heap) (locs : List Loc) (ls : Array Slot), HS D A H0 [(h_0, oX6 h_0_of h_0_kept h_0_column h_0_size h_0_hidden h_0_cell h_0_home h_0_waste h_0_stock h_0_past h_0_start h_0_known h_0_sorted h_0_row h_0_best I_0), (h_0_of, eI cI 9 (I_0 1)), (h_0_kept, eI cI 9 (I_0 2)), (h_0_column, eJ cJ 5 (L_0 0)), (h_0_size, eI cI 5 (I_0 3)), (h_0_hidden, eI cI 5 (I_0 4)), (h_0_cell, eI cI 2 (I_0 5)), (h_0_home, eI cI 4 (I_0 6)), (h_0_waste, eI cI 8 (I_0 7)), (h_0_stock, eI cI 8 (I_0 8)), (h_0_past, eJ cJ 1616 (L_0 1)), (h_0_start, eJ cJ 8 (L_0 2)), (h_0_known, eJ cJ 3216 (L_0 3)), (h_0_sorted, eJ cJ 3216 (L_0 4)), (h_0_row, eI cI 16 (I_0 9)), (h_0_best, eJ cJ 8 (L_0 5))] H locs → lv_has ls 10 [(0, .ref h_0), (1, .ref h_0_known), (2, .int v2), (9, .int v9)] → F_X6_store_b232 I_0 3 3216 K163 L_0 v2 v9 s0 s1 = some r_L_0 → W p l e ({ frames := 0, cells := 0, slots := 0, locals := 0 } : Room) s m args below meth c H locs 0 0 Q (F0 m 232 ls [.long s1, .long s0]) := by
    intro K163 hK163 L_0 v2 v9 s0 s1 H locs ls hS hl hF
    unfold F_X6_store_b232 at hF
    refine lv_lor hx hb dX6_store_232 ?_
    refine lv_lstore (lv' := [(7, .long (s0 ||| s1)), (0, .ref h_0), (1, .ref h_0_known), (2, .int v2), (9, .int v9)]) hx hb dX6_store_233 hl (by decide) rfl (fun ls hl => ?_)
    refine lv_iinc (v := v9 + (nI 1)) (lv' := [(9, .int (v9 + (nI 1))), (7, .long (s0 ||| s1)), (0, .ref h_0), (1, .ref h_0_known), (2, .int v2)]) hx hb dX6_store_235 hl (k := 4) rfl rfl (by decide) rfl (fun ls hl => ?_)
    refine lv_goto (tgt := 163) hx hb dX6_store_238 (by decide) ?_
    exact hK163 L_0 v2 (s0 ||| s1) (v9 + (nI 1)) _ _ _ hS (lv_sub hl [2, 3, 4, 1, 0] rfl) hF
  have B198 : ∀ (K163 : (Nat → Nat → Int64) → Int32 → Int64 → Int32 → Option ((Nat → Nat → Int64))) (_ : ∀ (L_0 : Nat → Nat → Int64) (v2 : Int32) (v7 : Int64) (v9 : Int32) (H : Heap) (locs : List Loc) (ls : Array Slot), HS D A H0 [(h_0, oX6 h_0_of h_0_kept h_0_column h_0_size h_0_hidden h_0_cell h_0_home h_0_waste h_0_stock h_0_past h_0_start h_0_known h_0_sorted h_0_row h_0_best I_0), (h_0_of, eI cI 9 (I_0 1)), (h_0_kept, eI cI 9 (I_0 2)), (h_0_column, eJ cJ 5 (L_0 0)), (h_0_size, eI cI 5 (I_0 3)), (h_0_hidden, eI cI 5 (I_0 4)), (h_0_cell, eI cI 2 (I_0 5)), (h_0_home, eI cI 4 (I_0 6)), (h_0_waste, eI cI 8 (I_0 7)), (h_0_stock, eI cI 8 (I_0 8)), (h_0_past, eJ cJ 1616 (L_0 1)), (h_0_start, eJ cJ 8 (L_0 2)), (h_0_known, eJ cJ 3216 (L_0 3)), (h_0_sorted, eJ cJ 3216 (L_0 4)), (h_0_row, eI cI 16 (I_0 9)), (h_0_best, eJ cJ 8 (L_0 5))] H locs → lv_has ls 10 [(0, .ref h_0), (1, .ref h_0_known), (2, .int v2), (7, .long v7), (9, .int v9)] → K163 L_0 v2 v7 v9 = some r_L_0 → W p l e ({ frames := 0, cells := 0, slots := 0, locals := 0 } : Room) s m args below meth c H locs 0 0 Q (F0 m 163 ls [])) (L_0 : Nat → Nat → Int64) (v2 : Int32) (v9 : Int32) (s0 : Int64) (s1 : Int64) (H : Heap) (locs : List Loc) (ls : Array Slot), HS D A H0 [(h_0, oX6 h_0_of h_0_kept h_0_column h_0_size h_0_hidden h_0_cell h_0_home h_0_waste h_0_stock h_0_past h_0_start h_0_known h_0_sorted h_0_row h_0_best I_0), (h_0_of, eI cI 9 (I_0 1)), (h_0_kept, eI cI 9 (I_0 2)), (h_0_column, eJ cJ 5 (L_0 0)), (h_0_size, eI cI 5 (I_0 3)), (h_0_hidden, eI cI 5 (I_0 4)), (h_0_cell, eI cI 2 (I_0 5)), (h_0_home, eI cI 4 (I_0 6)), (h_0_waste, eI cI 8 (I_0 7)), (h_0_stock, eI cI 8 (I_0 8)), (h_0_past, eJ cJ 1616 (L_0 1)), (h_0_start, eJ cJ 8 (L_0 2)), (h_0_known, eJ cJ 3216 (L_0 3)), (h_0_sorted, eJ cJ 3216 (L_0 4)), (h_0_row, eI cI 16 (I_0 9)), (h_0_best, eJ cJ 8 (L_0 5))] H locs → lv_has ls 10 [(0, .ref h_0), (1, .ref h_0_known), (2, .int v2), (9, .int v9)] → F_X6_store_b198 I_0 3 3216 K163 L_0 v2 v9 s0 s1 = some r_L_0 → W p l e ({ frames := 0, cells := 0, slots := 0, locals := 0 } : Room) s m args below meth c H locs 0 0 Q (F0 m 198 ls [.long s1, .long s0]) := by
    intro K163 hK163 L_0 v2 v9 s0 s1 H locs ls hS hl hF
    unfold F_X6_store_b198 at hF
    refine lv_lor hx hb dX6_store_198 ?_
    refine lv_lstore (lv' := [(7, .long (s0 ||| s1)), (0, .ref h_0), (1, .ref h_0_known), (2, .int v2), (9, .int v9)]) hx hb dX6_store_199 hl (by decide) rfl (fun ls hl => ?_)
    refine lv_lload hx hb dX6_store_201 (lv_at hl 0 rfl) ?_
    refine lv_iload hx hb dX6_store_203 (lv_at hl 4 rfl) ?_
    refine lv_aload_n hx hb dX6_store_205 rfl (lv_at hl 1 rfl) ?_
    refine r_get hx hb hts inX6 hown hK hS 0 23 rfl rfl (by decide) q0 rfl dX6_store_206 ?_
    refine lv_icmp_ge (tgt := 231) hx hb dX6_store_209 (by decide) (fun c_3 => ?_) (fun c_3 => ?_)
    · replace hF := ifp hF c_3
      refine lv_lconst (v := (lN 0)) hx hb dX6_store_231 (by decide) ?_
      exact B232 K163 hK163 L_0 v2 v9 (s0 ||| s1) (lN 0) _ _ _ hS (lv_sub hl [1, 2, 3, 4] rfl) hF
    · replace hF := ifn hF c_3
      refine lv_aload_n hx hb dX6_store_212 rfl (lv_at hl 1 rfl) ?_
      refine r_get hx hb hts inX6 hown hK hS 0 22 rfl rfl (by decide) q2 rfl dX6_store_213 ?_
      refine lv_iload hx hb dX6_store_216 (lv_at hl 4 rfl) ?_
      replace hF := rdA_e hF
      obtain ⟨hi5, x4, ex4, hF⟩ := hF
      refine r_iald hx hb hK hS 9 rfl rfl hi5 dX6_store_218 ex4 ?_
      refine lv_i2l hx hb dX6_store_219 rfl ?_
      refine lv_bipush (v := (nI 32)) hx hb dX6_store_220 (by decide) ?_
      refine lv_iconst (v := (nI 4)) hx hb dX6_store_222 (by decide) ?_
      refine lv_iload hx hb dX6_store_223 (lv_at hl 4 rfl) ?_
      refine lv_imul hx hb dX6_store_225 ?_
      refine lv_iadd hx hb dX6_store_226 ?_
      refine lv_lshl hx hb dX6_store_227 rfl ?_
      refine lv_goto (tgt := 232) hx hb dX6_store_228 (by decide) ?_
      exact B232 K163 hK163 L_0 v2 v9 (s0 ||| s1) ((x4.toInt64) <<< ((((nI 32) + ((nI 4) * v9)) : Int32).toInt64 &&& 63)) _ _ _ hS (lv_sub hl [1, 2, 3, 4] rfl) hF
  have S163 : ∀ (K163 : (Nat → Nat → Int64) → Int32 → Int64 → Int32 → Option ((Nat → Nat → Int64))) (_ : ∀ (L_0 : Nat → Nat → Int64) (v2 : Int32) (v7 : Int64) (v9 : Int32) (H : Heap) (locs : List Loc) (ls : Array Slot), HS D A H0 [(h_0, oX6 h_0_of h_0_kept h_0_column h_0_size h_0_hidden h_0_cell h_0_home h_0_waste h_0_stock h_0_past h_0_start h_0_known h_0_sorted h_0_row h_0_best I_0), (h_0_of, eI cI 9 (I_0 1)), (h_0_kept, eI cI 9 (I_0 2)), (h_0_column, eJ cJ 5 (L_0 0)), (h_0_size, eI cI 5 (I_0 3)), (h_0_hidden, eI cI 5 (I_0 4)), (h_0_cell, eI cI 2 (I_0 5)), (h_0_home, eI cI 4 (I_0 6)), (h_0_waste, eI cI 8 (I_0 7)), (h_0_stock, eI cI 8 (I_0 8)), (h_0_past, eJ cJ 1616 (L_0 1)), (h_0_start, eJ cJ 8 (L_0 2)), (h_0_known, eJ cJ 3216 (L_0 3)), (h_0_sorted, eJ cJ 3216 (L_0 4)), (h_0_row, eI cI 16 (I_0 9)), (h_0_best, eJ cJ 8 (L_0 5))] H locs → lv_has ls 10 [(0, .ref h_0), (1, .ref h_0_known), (2, .int v2), (7, .long v7), (9, .int v9)] → K163 L_0 v2 v7 v9 = some r_L_0 → W p l e ({ frames := 0, cells := 0, slots := 0, locals := 0 } : Room) s m args below meth c H locs 0 0 Q (F0 m 163 ls [])) (L_0 : Nat → Nat → Int64) (v2 : Int32) (v7 : Int64) (v9 : Int32) (H : Heap) (locs : List Loc) (ls : Array Slot), HS D A H0 [(h_0, oX6 h_0_of h_0_kept h_0_column h_0_size h_0_hidden h_0_cell h_0_home h_0_waste h_0_stock h_0_past h_0_start h_0_known h_0_sorted h_0_row h_0_best I_0), (h_0_of, eI cI 9 (I_0 1)), (h_0_kept, eI cI 9 (I_0 2)), (h_0_column, eJ cJ 5 (L_0 0)), (h_0_size, eI cI 5 (I_0 3)), (h_0_hidden, eI cI 5 (I_0 4)), (h_0_cell, eI cI 2 (I_0 5)), (h_0_home, eI cI 4 (I_0 6)), (h_0_waste, eI cI 8 (I_0 7)), (h_0_stock, eI cI 8 (I_0 8)), (h_0_past, eJ cJ 1616 (L_0 1)), (h_0_start, eJ cJ 8 (L_0 2)), (h_0_known, eJ cJ 3216 (L_0 3)), (h_0_sorted, eJ cJ 3216 (L_0 4)), (h_0_row, eI cI 16 (I_0 9)), (h_0_best, eJ cJ 8 (L_0 5))] H locs → lv_has ls 10 [(0, .ref h_0), (1, .ref h_0_known), (2, .int v2), (7, .long v7), (9, .int v9)] → F_X6_store_s163 I_0 3 3216 K163 L_0 v2 v7 v9 = some r_L_0 → W p l e ({ frames := 0, cells := 0, slots := 0, locals := 0 } : Room) s m args below meth c H locs 0 0 Q (F0 m 163 ls []) := by
    intro K163 hK163 L_0 v2 v7 v9 H locs ls hS hl hF
    unfold F_X6_store_s163 at hF
    refine lv_iload hx hb dX6_store_163 (lv_at hl 4 rfl) ?_
    refine lv_bipush (v := (nI 8)) hx hb dX6_store_165 (by decide) ?_
    refine lv_icmp_ge (tgt := 241) hx hb dX6_store_167 (by decide) (fun c_6 => ?_) (fun c_6 => ?_)
    · replace hF := ifp hF c_6
      exact B241 L_0 v2 v7 _ _ _ hS (lv_sub hl [1, 2, 3] rfl) hF
    · replace hF := ifn hF c_6
      refine lv_lload hx hb dX6_store_170 (lv_at hl 3 rfl) ?_
      refine lv_iload hx hb dX6_store_172 (lv_at hl 4 rfl) ?_
      refine lv_aload_n hx hb dX6_store_174 rfl (lv_at hl 0 rfl) ?_
      refine r_get hx hb hts inX6 hown hK hS 0 21 rfl rfl (by decide) q3 rfl dX6_store_175 ?_
      refine lv_icmp_ge (tgt := 197) hx hb dX6_store_178 (by decide) (fun c_7 => ?_) (fun c_7 => ?_)
      · replace hF := ifp hF c_7
        refine lv_lconst (v := (lN 0)) hx hb dX6_store_197 (by decide) ?_
        exact B198 K163 hK163 L_0 v2 v9 v7 (lN 0) _ _ _ hS (lv_sub hl [0, 1, 2, 4] rfl) hF
      · replace hF := ifn hF c_7
        refine lv_aload_n hx hb dX6_store_181 rfl (lv_at hl 0 rfl) ?_
        refine r_get hx hb hts inX6 hown hK hS 0 20 rfl rfl (by decide) q4 rfl dX6_store_182 ?_
        refine lv_iload hx hb dX6_store_185 (lv_at hl 4 rfl) ?_
        replace hF := rdA_e hF
        obtain ⟨hi9, x8, ex8, hF⟩ := hF
        refine r_iald hx hb hK hS 8 rfl rfl hi9 dX6_store_187 ex8 ?_
        refine lv_i2l hx hb dX6_store_188 rfl ?_
        refine lv_iconst (v := (nI 4)) hx hb dX6_store_189 (by decide) ?_
        refine lv_iload hx hb dX6_store_190 (lv_at hl 4 rfl) ?_
        refine lv_imul hx hb dX6_store_192 ?_
        refine lv_lshl hx hb dX6_store_193 rfl ?_
        refine lv_goto (tgt := 198) hx hb dX6_store_194 (by decide) ?_
        exact B198 K163 hK163 L_0 v2 v9 v7 ((x8.toInt64) <<< ((((nI 4) * v9) : Int32).toInt64 &&& 63)) _ _ _ hS (lv_sub hl [0, 1, 2, 4] rfl) hF
  have L163 : ∀  (n : Nat) (L_0 : Nat → Nat → Int64) (v2 : Int32) (v7 : Int64) (v9 : Int32) (H : Heap) (locs : List Loc) (ls : Array Slot), HS D A H0 [(h_0, oX6 h_0_of h_0_kept h_0_column h_0_size h_0_hidden h_0_cell h_0_home h_0_waste h_0_stock h_0_past h_0_start h_0_known h_0_sorted h_0_row h_0_best I_0), (h_0_of, eI cI 9 (I_0 1)), (h_0_kept, eI cI 9 (I_0 2)), (h_0_column, eJ cJ 5 (L_0 0)), (h_0_size, eI cI 5 (I_0 3)), (h_0_hidden, eI cI 5 (I_0 4)), (h_0_cell, eI cI 2 (I_0 5)), (h_0_home, eI cI 4 (I_0 6)), (h_0_waste, eI cI 8 (I_0 7)), (h_0_stock, eI cI 8 (I_0 8)), (h_0_past, eJ cJ 1616 (L_0 1)), (h_0_start, eJ cJ 8 (L_0 2)), (h_0_known, eJ cJ 3216 (L_0 3)), (h_0_sorted, eJ cJ 3216 (L_0 4)), (h_0_row, eI cI 16 (I_0 9)), (h_0_best, eJ cJ 8 (L_0 5))] H locs → lv_has ls 10 [(0, .ref h_0), (1, .ref h_0_known), (2, .int v2), (7, .long v7), (9, .int v9)] → F_X6_store_L163 I_0 3 3216  n L_0 v2 v7 v9 = some r_L_0 → W p l e ({ frames := 0, cells := 0, slots := 0, locals := 0 } : Room) s m args below meth c H locs 0 0 Q (F0 m 163 ls []) := by
    intro  n
    induction n with
    | zero => intro L_0 v2 v7 v9 H locs ls hS hl hF; exact nomatch (show (none : Option ((Nat → Nat → Int64))) = some _ from hF)
    | succ n ih => intro L_0 v2 v7 v9 H locs ls hS hl hF; exact S163  _ ih L_0 v2 v7 v9 H locs ls hS hl hF
  have B149 : ∀ (L_0 : Nat → Nat → Int64) (v2 : Int32) (v5 : Int64) (H : Heap) (locs : List Loc) (ls : Array Slot), HS D A H0 [(h_0, oX6 h_0_of h_0_kept h_0_column h_0_size h_0_hidden h_0_cell h_0_home h_0_waste h_0_stock h_0_past h_0_start h_0_known h_0_sorted h_0_row h_0_best I_0), (h_0_of, eI cI 9 (I_0 1)), (h_0_kept, eI cI 9 (I_0 2)), (h_0_column, eJ cJ 5 (L_0 0)), (h_0_size, eI cI 5 (I_0 3)), (h_0_hidden, eI cI 5 (I_0 4)), (h_0_cell, eI cI 2 (I_0 5)), (h_0_home, eI cI 4 (I_0 6)), (h_0_waste, eI cI 8 (I_0 7)), (h_0_stock, eI cI 8 (I_0 8)), (h_0_past, eJ cJ 1616 (L_0 1)), (h_0_start, eJ cJ 8 (L_0 2)), (h_0_known, eJ cJ 3216 (L_0 3)), (h_0_sorted, eJ cJ 3216 (L_0 4)), (h_0_row, eI cI 16 (I_0 9)), (h_0_best, eJ cJ 8 (L_0 5))] H locs → lv_has ls 10 [(0, .ref h_0), (1, .ref h_0_known), (2, .int v2), (5, .long v5)] → F_X6_store_b149 I_0 3 3216  L_0 v2 v5 = some r_L_0 → W p l e ({ frames := 0, cells := 0, slots := 0, locals := 0 } : Room) s m args below meth c H locs 0 0 Q (F0 m 149 ls []) := by
    intro L_0 v2 v5 H locs ls hS hl hF
    unfold F_X6_store_b149 at hF
    refine lv_aload_n hx hb dX6_store_149 rfl (lv_at hl 1 rfl) ?_
    refine lv_iload_n hx hb dX6_store_150 rfl (lv_at hl 2 rfl) ?_
    refine lv_bipush (v := (nI 6)) hx hb dX6_store_151 (by decide) ?_
    refine lv_iadd hx hb dX6_store_153 ?_
    refine lv_lload hx hb dX6_store_154 (lv_at hl 3 rfl) ?_
    replace hF := wrJ_e hF
    obtain ⟨hi11, L_0u10, eL_0u10, hF⟩ := hF
    refine r_last (w2 := [(h_0, oX6 h_0_of h_0_kept h_0_column h_0_size h_0_hidden h_0_cell h_0_home h_0_waste h_0_stock h_0_past h_0_start h_0_known h_0_sorted h_0_row h_0_best I_0), (h_0_of, eI cI 9 (I_0 1)), (h_0_kept, eI cI 9 (I_0 2)), (h_0_column, eJ cJ 5 (L_0u10 0)), (h_0_size, eI cI 5 (I_0 3)), (h_0_hidden, eI cI 5 (I_0 4)), (h_0_cell, eI cI 2 (I_0 5)), (h_0_home, eI cI 4 (I_0 6)), (h_0_waste, eI cI 8 (I_0 7)), (h_0_stock, eI cI 8 (I_0 8)), (h_0_past, eJ cJ 1616 (L_0u10 1)), (h_0_start, eJ cJ 8 (L_0u10 2)), (h_0_known, eJ cJ 3216 (L_0u10 3)), (h_0_sorted, eJ cJ 3216 (L_0u10 4)), (h_0_row, eI cI 16 (I_0 9)), (h_0_best, eJ cJ 8 (L_0u10 5))]) hx hb hK hS 12 rfl rfl hi11 dX6_store_156 (by rw [eL_0u10]; rfl) (fun H locs hS => ?_)
    refine lv_lconst (v := (lN 0)) hx hb dX6_store_157 (by decide) ?_
    refine lv_lstore (lv' := [(7, .long (lN 0)), (0, .ref h_0), (1, .ref h_0_known), (2, .int v2), (5, .long v5)]) hx hb dX6_store_158 hl (by decide) rfl (fun ls hl => ?_)
    refine lv_iconst (v := (nI 0)) hx hb dX6_store_160 (by decide) ?_
    refine lv_istore (lv' := [(9, .int (nI 0)), (7, .long (lN 0)), (0, .ref h_0), (1, .ref h_0_known), (2, .int v2), (5, .long v5)]) hx hb dX6_store_161 hl (by decide) rfl (fun ls hl => ?_)
    exact L163 FU L_0u10 v2 (lN 0) (nI 0) _ _ _ hS (lv_sub hl [2, 3, 4, 1, 0] rfl) hF
  have S116 : ∀ (K116 : (Nat → Nat → Int64) → Int32 → Int64 → Int32 → Option ((Nat → Nat → Int64))) (_ : ∀ (L_0 : Nat → Nat → Int64) (v2 : Int32) (v5 : Int64) (v7 : Int32) (H : Heap) (locs : List Loc) (ls : Array Slot), HS D A H0 [(h_0, oX6 h_0_of h_0_kept h_0_column h_0_size h_0_hidden h_0_cell h_0_home h_0_waste h_0_stock h_0_past h_0_start h_0_known h_0_sorted h_0_row h_0_best I_0), (h_0_of, eI cI 9 (I_0 1)), (h_0_kept, eI cI 9 (I_0 2)), (h_0_column, eJ cJ 5 (L_0 0)), (h_0_size, eI cI 5 (I_0 3)), (h_0_hidden, eI cI 5 (I_0 4)), (h_0_cell, eI cI 2 (I_0 5)), (h_0_home, eI cI 4 (I_0 6)), (h_0_waste, eI cI 8 (I_0 7)), (h_0_stock, eI cI 8 (I_0 8)), (h_0_past, eJ cJ 1616 (L_0 1)), (h_0_start, eJ cJ 8 (L_0 2)), (h_0_known, eJ cJ 3216 (L_0 3)), (h_0_sorted, eJ cJ 3216 (L_0 4)), (h_0_row, eI cI 16 (I_0 9)), (h_0_best, eJ cJ 8 (L_0 5))] H locs → lv_has ls 10 [(0, .ref h_0), (1, .ref h_0_known), (2, .int v2), (5, .long v5), (7, .int v7)] → K116 L_0 v2 v5 v7 = some r_L_0 → W p l e ({ frames := 0, cells := 0, slots := 0, locals := 0 } : Room) s m args below meth c H locs 0 0 Q (F0 m 116 ls [])) (L_0 : Nat → Nat → Int64) (v2 : Int32) (v5 : Int64) (v7 : Int32) (H : Heap) (locs : List Loc) (ls : Array Slot), HS D A H0 [(h_0, oX6 h_0_of h_0_kept h_0_column h_0_size h_0_hidden h_0_cell h_0_home h_0_waste h_0_stock h_0_past h_0_start h_0_known h_0_sorted h_0_row h_0_best I_0), (h_0_of, eI cI 9 (I_0 1)), (h_0_kept, eI cI 9 (I_0 2)), (h_0_column, eJ cJ 5 (L_0 0)), (h_0_size, eI cI 5 (I_0 3)), (h_0_hidden, eI cI 5 (I_0 4)), (h_0_cell, eI cI 2 (I_0 5)), (h_0_home, eI cI 4 (I_0 6)), (h_0_waste, eI cI 8 (I_0 7)), (h_0_stock, eI cI 8 (I_0 8)), (h_0_past, eJ cJ 1616 (L_0 1)), (h_0_start, eJ cJ 8 (L_0 2)), (h_0_known, eJ cJ 3216 (L_0 3)), (h_0_sorted, eJ cJ 3216 (L_0 4)), (h_0_row, eI cI 16 (I_0 9)), (h_0_best, eJ cJ 8 (L_0 5))] H locs → lv_has ls 10 [(0, .ref h_0), (1, .ref h_0_known), (2, .int v2), (5, .long v5), (7, .int v7)] → F_X6_store_s116 I_0 3 3216 K116 L_0 v2 v5 v7 = some r_L_0 → W p l e ({ frames := 0, cells := 0, slots := 0, locals := 0 } : Room) s m args below meth c H locs 0 0 Q (F0 m 116 ls []) := by
    intro K116 hK116 L_0 v2 v5 v7 H locs ls hS hl hF
    unfold F_X6_store_s116 at hF
    refine lv_iload hx hb dX6_store_116 (lv_at hl 4 rfl) ?_
    refine lv_iconst (v := (nI 4)) hx hb dX6_store_118 (by decide) ?_
    refine lv_icmp_ge (tgt := 149) hx hb dX6_store_119 (by decide) (fun c_12 => ?_) (fun c_12 => ?_)
    · replace hF := ifp hF c_12
      exact B149 L_0 v2 v5 _ _ _ hS (lv_sub hl [0, 1, 2, 3] rfl) hF
    · replace hF := ifn hF c_12
      refine lv_lload hx hb dX6_store_122 (lv_at hl 3 rfl) ?_
      refine lv_aload_n hx hb dX6_store_124 rfl (lv_at hl 0 rfl) ?_
      refine r_get hx hb hts inX6 hown hK hS 0 19 rfl rfl (by decide) q5 rfl dX6_store_125 ?_
      refine lv_iload hx hb dX6_store_128 (lv_at hl 4 rfl) ?_
      replace hF := rdA_e hF
      obtain ⟨hi14, x13, ex13, hF⟩ := hF
      refine r_iald hx hb hK hS 7 rfl rfl hi14 dX6_store_130 ex13 ?_
      refine lv_i2l hx hb dX6_store_131 rfl ?_
      refine lv_bipush (v := (nI 20)) hx hb dX6_store_132 (by decide) ?_
      refine lv_iconst (v := (nI 3)) hx hb dX6_store_134 (by decide) ?_
      refine lv_iload hx hb dX6_store_135 (lv_at hl 4 rfl) ?_
      refine lv_imul hx hb dX6_store_137 ?_
      refine lv_iadd hx hb dX6_store_138 ?_
      refine lv_lshl hx hb dX6_store_139 rfl ?_
      refine lv_lor hx hb dX6_store_140 ?_
      refine lv_lstore (lv' := [(5, .long (v5 ||| ((x13.toInt64) <<< ((((nI 20) + ((nI 3) * v7)) : Int32).toInt64 &&& 63)))), (0, .ref h_0), (1, .ref h_0_known), (2, .int v2), (7, .int v7)]) hx hb dX6_store_141 hl (by decide) rfl (fun ls hl => ?_)
      refine lv_iinc (v := v7 + (nI 1)) (lv' := [(7, .int (v7 + (nI 1))), (5, .long (v5 ||| ((x13.toInt64) <<< ((((nI 20) + ((nI 3) * v7)) : Int32).toInt64 &&& 63)))), (0, .ref h_0), (1, .ref h_0_known), (2, .int v2)]) hx hb dX6_store_143 hl (k := 4) rfl rfl (by decide) rfl (fun ls hl => ?_)
      refine lv_goto (tgt := 116) hx hb dX6_store_146 (by decide) ?_
      exact hK116 L_0 v2 (v5 ||| ((x13.toInt64) <<< ((((nI 20) + ((nI 3) * v7)) : Int32).toInt64 &&& 63))) (v7 + (nI 1)) _ _ _ hS (lv_sub hl [2, 3, 4, 1, 0] rfl) hF
  have L116 : ∀  (n : Nat) (L_0 : Nat → Nat → Int64) (v2 : Int32) (v5 : Int64) (v7 : Int32) (H : Heap) (locs : List Loc) (ls : Array Slot), HS D A H0 [(h_0, oX6 h_0_of h_0_kept h_0_column h_0_size h_0_hidden h_0_cell h_0_home h_0_waste h_0_stock h_0_past h_0_start h_0_known h_0_sorted h_0_row h_0_best I_0), (h_0_of, eI cI 9 (I_0 1)), (h_0_kept, eI cI 9 (I_0 2)), (h_0_column, eJ cJ 5 (L_0 0)), (h_0_size, eI cI 5 (I_0 3)), (h_0_hidden, eI cI 5 (I_0 4)), (h_0_cell, eI cI 2 (I_0 5)), (h_0_home, eI cI 4 (I_0 6)), (h_0_waste, eI cI 8 (I_0 7)), (h_0_stock, eI cI 8 (I_0 8)), (h_0_past, eJ cJ 1616 (L_0 1)), (h_0_start, eJ cJ 8 (L_0 2)), (h_0_known, eJ cJ 3216 (L_0 3)), (h_0_sorted, eJ cJ 3216 (L_0 4)), (h_0_row, eI cI 16 (I_0 9)), (h_0_best, eJ cJ 8 (L_0 5))] H locs → lv_has ls 10 [(0, .ref h_0), (1, .ref h_0_known), (2, .int v2), (5, .long v5), (7, .int v7)] → F_X6_store_L116 I_0 3 3216  n L_0 v2 v5 v7 = some r_L_0 → W p l e ({ frames := 0, cells := 0, slots := 0, locals := 0 } : Room) s m args below meth c H locs 0 0 Q (F0 m 116 ls []) := by
    intro  n
    induction n with
    | zero => intro L_0 v2 v5 v7 H locs ls hS hl hF; exact nomatch (show (none : Option ((Nat → Nat → Int64))) = some _ from hF)
    | succ n ih => intro L_0 v2 v5 v7 H locs ls hS hl hF; exact S116  _ ih L_0 v2 v5 v7 H locs ls hS hl hF
  have B57 : ∀ (L_0 : Nat → Nat → Int64) (v2 : Int32) (v3 : Int64) (H : Heap) (locs : List Loc) (ls : Array Slot), HS D A H0 [(h_0, oX6 h_0_of h_0_kept h_0_column h_0_size h_0_hidden h_0_cell h_0_home h_0_waste h_0_stock h_0_past h_0_start h_0_known h_0_sorted h_0_row h_0_best I_0), (h_0_of, eI cI 9 (I_0 1)), (h_0_kept, eI cI 9 (I_0 2)), (h_0_column, eJ cJ 5 (L_0 0)), (h_0_size, eI cI 5 (I_0 3)), (h_0_hidden, eI cI 5 (I_0 4)), (h_0_cell, eI cI 2 (I_0 5)), (h_0_home, eI cI 4 (I_0 6)), (h_0_waste, eI cI 8 (I_0 7)), (h_0_stock, eI cI 8 (I_0 8)), (h_0_past, eJ cJ 1616 (L_0 1)), (h_0_start, eJ cJ 8 (L_0 2)), (h_0_known, eJ cJ 3216 (L_0 3)), (h_0_sorted, eJ cJ 3216 (L_0 4)), (h_0_row, eI cI 16 (I_0 9)), (h_0_best, eJ cJ 8 (L_0 5))] H locs → lv_has ls 10 [(0, .ref h_0), (1, .ref h_0_known), (2, .int v2), (3, .long v3)] → F_X6_store_b57 I_0 3 3216  L_0 v2 v3 = some r_L_0 → W p l e ({ frames := 0, cells := 0, slots := 0, locals := 0 } : Room) s m args below meth c H locs 0 0 Q (F0 m 57 ls []) := by
    intro L_0 v2 v3 H locs ls hS hl hF
    unfold F_X6_store_b57 at hF
    refine lv_aload_n hx hb dX6_store_57 rfl (lv_at hl 1 rfl) ?_
    refine lv_iload_n hx hb dX6_store_58 rfl (lv_at hl 2 rfl) ?_
    refine lv_iconst (v := (nI 5)) hx hb dX6_store_59 (by decide) ?_
    refine lv_iadd hx hb dX6_store_60 ?_
    refine lv_lload_n hx hb dX6_store_61 rfl (lv_at hl 3 rfl) ?_
    replace hF := wrJ_e hF
    obtain ⟨hi16, L_0u15, eL_0u15, hF⟩ := hF
    refine r_last (w2 := [(h_0, oX6 h_0_of h_0_kept h_0_column h_0_size h_0_hidden h_0_cell h_0_home h_0_waste h_0_stock h_0_past h_0_start h_0_known h_0_sorted h_0_row h_0_best I_0), (h_0_of, eI cI 9 (I_0 1)), (h_0_kept, eI cI 9 (I_0 2)), (h_0_column, eJ cJ 5 (L_0u15 0)), (h_0_size, eI cI 5 (I_0 3)), (h_0_hidden, eI cI 5 (I_0 4)), (h_0_cell, eI cI 2 (I_0 5)), (h_0_home, eI cI 4 (I_0 6)), (h_0_waste, eI cI 8 (I_0 7)), (h_0_stock, eI cI 8 (I_0 8)), (h_0_past, eJ cJ 1616 (L_0u15 1)), (h_0_start, eJ cJ 8 (L_0u15 2)), (h_0_known, eJ cJ 3216 (L_0u15 3)), (h_0_sorted, eJ cJ 3216 (L_0u15 4)), (h_0_row, eI cI 16 (I_0 9)), (h_0_best, eJ cJ 8 (L_0u15 5))]) hx hb hK hS 12 rfl rfl hi16 dX6_store_62 (by rw [eL_0u15]; rfl) (fun H locs hS => ?_)
    refine lv_aload_n hx hb dX6_store_63 rfl (lv_at hl 0 rfl) ?_
    refine r_get hx hb hts inX6 hown hK hS 0 18 rfl rfl (by decide) q6 rfl dX6_store_64 ?_
    refine lv_iconst (v := (nI 0)) hx hb dX6_store_67 (by decide) ?_
    replace hF := rdA_e hF
    obtain ⟨hi18, x17, ex17, hF⟩ := hF
    refine r_iald hx hb hK hS 6 rfl rfl hi18 dX6_store_68 ex17 ?_
    refine lv_i2l hx hb dX6_store_69 rfl ?_
    refine lv_lconst (v := (lN 1)) hx hb dX6_store_70 (by decide) ?_
    refine lv_ladd hx hb dX6_store_71 ?_
    refine lv_aload_n hx hb dX6_store_72 rfl (lv_at hl 0 rfl) ?_
    refine r_get hx hb hts inX6 hown hK hS 0 18 rfl rfl (by decide) q6 rfl dX6_store_73 ?_
    refine lv_iconst (v := (nI 1)) hx hb dX6_store_76 (by decide) ?_
    replace hF := rdA_e hF
    obtain ⟨hi20, x19, ex19, hF⟩ := hF
    refine r_iald hx hb hK hS 6 rfl rfl hi20 dX6_store_77 ex19 ?_
    refine lv_i2l hx hb dX6_store_78 rfl ?_
    refine lv_lconst (v := (lN 1)) hx hb dX6_store_79 (by decide) ?_
    refine lv_ladd hx hb dX6_store_80 ?_
    refine lv_iconst (v := (nI 5)) hx hb dX6_store_81 (by decide) ?_
    refine lv_lshl hx hb dX6_store_82 rfl ?_
    refine lv_lor hx hb dX6_store_83 ?_
    refine lv_aload_n hx hb dX6_store_84 rfl (lv_at hl 0 rfl) ?_
    refine r_get hx hb hts inX6 hown hK hS 0 24 rfl rfl (by decide) q7 rfl dX6_store_85 ?_
    refine lv_i2l hx hb dX6_store_88 rfl ?_
    refine lv_bipush (v := (nI 10)) hx hb dX6_store_89 (by decide) ?_
    refine lv_lshl hx hb dX6_store_91 rfl ?_
    refine lv_lor hx hb dX6_store_92 ?_
    refine lv_aload_n hx hb dX6_store_93 rfl (lv_at hl 0 rfl) ?_
    refine r_get hx hb hts inX6 hown hK hS 0 21 rfl rfl (by decide) q3 rfl dX6_store_94 ?_
    refine lv_i2l hx hb dX6_store_97 rfl ?_
    refine lv_bipush (v := (nI 12)) hx hb dX6_store_98 (by decide) ?_
    refine lv_lshl hx hb dX6_store_100 rfl ?_
    refine lv_lor hx hb dX6_store_101 ?_
    refine lv_aload_n hx hb dX6_store_102 rfl (lv_at hl 0 rfl) ?_
    refine r_get hx hb hts inX6 hown hK hS 0 23 rfl rfl (by decide) q0 rfl dX6_store_103 ?_
    refine lv_i2l hx hb dX6_store_106 rfl ?_
    refine lv_bipush (v := (nI 16)) hx hb dX6_store_107 (by decide) ?_
    refine lv_lshl hx hb dX6_store_109 rfl ?_
    refine lv_lor hx hb dX6_store_110 ?_
    refine lv_lstore (lv' := [(5, .long ((((((x17.toInt64) + (lN 1)) ||| (((x19.toInt64) + (lN 1)) <<< (((nI 5) : Int32).toInt64 &&& 63))) ||| ((((I_0 0 24) : Int32).toInt64) <<< (((nI 10) : Int32).toInt64 &&& 63))) ||| ((((I_0 0 21) : Int32).toInt64) <<< (((nI 12) : Int32).toInt64 &&& 63))) ||| ((((I_0 0 23) : Int32).toInt64) <<< (((nI 16) : Int32).toInt64 &&& 63)))), (0, .ref h_0), (1, .ref h_0_known), (2, .int v2), (3, .long v3)]) hx hb dX6_store_111 hl (by decide) rfl (fun ls hl => ?_)
    refine lv_iconst (v := (nI 0)) hx hb dX6_store_113 (by decide) ?_
    refine lv_istore (lv' := [(7, .int (nI 0)), (5, .long ((((((x17.toInt64) + (lN 1)) ||| (((x19.toInt64) + (lN 1)) <<< (((nI 5) : Int32).toInt64 &&& 63))) ||| ((((I_0 0 24) : Int32).toInt64) <<< (((nI 10) : Int32).toInt64 &&& 63))) ||| ((((I_0 0 21) : Int32).toInt64) <<< (((nI 12) : Int32).toInt64 &&& 63))) ||| ((((I_0 0 23) : Int32).toInt64) <<< (((nI 16) : Int32).toInt64 &&& 63)))), (0, .ref h_0), (1, .ref h_0_known), (2, .int v2), (3, .long v3)]) hx hb dX6_store_114 hl (by decide) rfl (fun ls hl => ?_)
    exact L116 FU L_0u15 v2 ((((((x17.toInt64) + (lN 1)) ||| (((x19.toInt64) + (lN 1)) <<< (((nI 5) : Int32).toInt64 &&& 63))) ||| ((((I_0 0 24) : Int32).toInt64) <<< (((nI 10) : Int32).toInt64 &&& 63))) ||| ((((I_0 0 21) : Int32).toInt64) <<< (((nI 12) : Int32).toInt64 &&& 63))) ||| ((((I_0 0 23) : Int32).toInt64) <<< (((nI 16) : Int32).toInt64 &&& 63))) (nI 0) _ _ _ hS (lv_sub hl [2, 3, 4, 1, 0] rfl) hF
  have S5 : ∀ (K5 : (Nat → Nat → Int64) → Int32 → Int64 → Int32 → Option ((Nat → Nat → Int64))) (_ : ∀ (L_0 : Nat → Nat → Int64) (v2 : Int32) (v3 : Int64) (v5 : Int32) (H : Heap) (locs : List Loc) (ls : Array Slot), HS D A H0 [(h_0, oX6 h_0_of h_0_kept h_0_column h_0_size h_0_hidden h_0_cell h_0_home h_0_waste h_0_stock h_0_past h_0_start h_0_known h_0_sorted h_0_row h_0_best I_0), (h_0_of, eI cI 9 (I_0 1)), (h_0_kept, eI cI 9 (I_0 2)), (h_0_column, eJ cJ 5 (L_0 0)), (h_0_size, eI cI 5 (I_0 3)), (h_0_hidden, eI cI 5 (I_0 4)), (h_0_cell, eI cI 2 (I_0 5)), (h_0_home, eI cI 4 (I_0 6)), (h_0_waste, eI cI 8 (I_0 7)), (h_0_stock, eI cI 8 (I_0 8)), (h_0_past, eJ cJ 1616 (L_0 1)), (h_0_start, eJ cJ 8 (L_0 2)), (h_0_known, eJ cJ 3216 (L_0 3)), (h_0_sorted, eJ cJ 3216 (L_0 4)), (h_0_row, eI cI 16 (I_0 9)), (h_0_best, eJ cJ 8 (L_0 5))] H locs → lv_has ls 10 [(0, .ref h_0), (1, .ref h_0_known), (2, .int v2), (3, .long v3), (5, .int v5)] → K5 L_0 v2 v3 v5 = some r_L_0 → W p l e ({ frames := 0, cells := 0, slots := 0, locals := 0 } : Room) s m args below meth c H locs 0 0 Q (F0 m 5 ls [])) (L_0 : Nat → Nat → Int64) (v2 : Int32) (v3 : Int64) (v5 : Int32) (H : Heap) (locs : List Loc) (ls : Array Slot), HS D A H0 [(h_0, oX6 h_0_of h_0_kept h_0_column h_0_size h_0_hidden h_0_cell h_0_home h_0_waste h_0_stock h_0_past h_0_start h_0_known h_0_sorted h_0_row h_0_best I_0), (h_0_of, eI cI 9 (I_0 1)), (h_0_kept, eI cI 9 (I_0 2)), (h_0_column, eJ cJ 5 (L_0 0)), (h_0_size, eI cI 5 (I_0 3)), (h_0_hidden, eI cI 5 (I_0 4)), (h_0_cell, eI cI 2 (I_0 5)), (h_0_home, eI cI 4 (I_0 6)), (h_0_waste, eI cI 8 (I_0 7)), (h_0_stock, eI cI 8 (I_0 8)), (h_0_past, eJ cJ 1616 (L_0 1)), (h_0_start, eJ cJ 8 (L_0 2)), (h_0_known, eJ cJ 3216 (L_0 3)), (h_0_sorted, eJ cJ 3216 (L_0 4)), (h_0_row, eI cI 16 (I_0 9)), (h_0_best, eJ cJ 8 (L_0 5))] H locs → lv_has ls 10 [(0, .ref h_0), (1, .ref h_0_known), (2, .int v2), (3, .long v3), (5, .int v5)] → F_X6_store_s5 I_0 3 3216 K5 L_0 v2 v3 v5 = some r_L_0 → W p l e ({ frames := 0, cells := 0, slots := 0, locals := 0 } : Room) s m args below meth c H locs 0 0 Q (F0 m 5 ls []) := by
    intro K5 hK5 L_0 v2 v3 v5 H locs ls hS hl hF
    unfold F_X6_store_s5 at hF
    refine lv_iload hx hb dX6_store_5 (lv_at hl 4 rfl) ?_
    refine lv_iconst (v := (nI 5)) hx hb dX6_store_7 (by decide) ?_
    refine lv_icmp_ge (tgt := 57) hx hb dX6_store_8 (by decide) (fun c_21 => ?_) (fun c_21 => ?_)
    · replace hF := ifp hF c_21
      exact B57 L_0 v2 v3 _ _ _ hS (lv_sub hl [0, 1, 2, 3] rfl) hF
    · replace hF := ifn hF c_21
      refine lv_aload_n hx hb dX6_store_11 rfl (lv_at hl 1 rfl) ?_
      refine lv_iload_n hx hb dX6_store_12 rfl (lv_at hl 2 rfl) ?_
      refine lv_iload hx hb dX6_store_13 (lv_at hl 4 rfl) ?_
      refine lv_iadd hx hb dX6_store_15 ?_
      refine lv_aload_n hx hb dX6_store_16 rfl (lv_at hl 0 rfl) ?_
      refine r_get hx hb hts inX6 hown hK hS 0 15 rfl rfl (by decide) q8 rfl dX6_store_17 ?_
      refine lv_iload hx hb dX6_store_20 (lv_at hl 4 rfl) ?_
      replace hF := rdA_e hF
      obtain ⟨hi23, x22, ex22, hF⟩ := hF
      refine r_lald hx hb hK hS 3 rfl rfl hi23 dX6_store_22 ex22 ?_
      replace hF := wrJ_e hF
      obtain ⟨hi25, L_0u24, eL_0u24, hF⟩ := hF
      refine r_last (w2 := [(h_0, oX6 h_0_of h_0_kept h_0_column h_0_size h_0_hidden h_0_cell h_0_home h_0_waste h_0_stock h_0_past h_0_start h_0_known h_0_sorted h_0_row h_0_best I_0), (h_0_of, eI cI 9 (I_0 1)), (h_0_kept, eI cI 9 (I_0 2)), (h_0_column, eJ cJ 5 (L_0u24 0)), (h_0_size, eI cI 5 (I_0 3)), (h_0_hidden, eI cI 5 (I_0 4)), (h_0_cell, eI cI 2 (I_0 5)), (h_0_home, eI cI 4 (I_0 6)), (h_0_waste, eI cI 8 (I_0 7)), (h_0_stock, eI cI 8 (I_0 8)), (h_0_past, eJ cJ 1616 (L_0u24 1)), (h_0_start, eJ cJ 8 (L_0u24 2)), (h_0_known, eJ cJ 3216 (L_0u24 3)), (h_0_sorted, eJ cJ 3216 (L_0u24 4)), (h_0_row, eI cI 16 (I_0 9)), (h_0_best, eJ cJ 8 (L_0u24 5))]) hx hb hK hS 12 rfl rfl hi25 dX6_store_23 (by rw [eL_0u24]; rfl) (fun H locs hS => ?_)
      refine lv_lload_n hx hb dX6_store_24 rfl (lv_at hl 3 rfl) ?_
      refine lv_aload_n hx hb dX6_store_25 rfl (lv_at hl 0 rfl) ?_
      refine r_get hx hb hts inX6 hown hK hS 0 16 rfl rfl (by decide) q9 rfl dX6_store_26 ?_
      refine lv_iload hx hb dX6_store_29 (lv_at hl 4 rfl) ?_
      replace hF := rdA_e hF
      obtain ⟨hi27, x26, ex26, hF⟩ := hF
      refine r_iald hx hb hK hS 4 rfl rfl hi27 dX6_store_31 ex26 ?_
      refine lv_aload_n hx hb dX6_store_32 rfl (lv_at hl 0 rfl) ?_
      refine r_get hx hb hts inX6 hown hK hS 0 17 rfl rfl (by decide) q10 rfl dX6_store_33 ?_
      refine lv_iload hx hb dX6_store_36 (lv_at hl 4 rfl) ?_
      replace hF := rdA_e hF
      obtain ⟨hi29, x28, ex28, hF⟩ := hF
      refine r_iald hx hb hK hS 5 rfl rfl hi29 dX6_store_38 ex28 ?_
      refine lv_iconst (v := (nI 5)) hx hb dX6_store_39 (by decide) ?_
      refine lv_ishl hx hb dX6_store_40 ?_
      refine lv_ior hx hb dX6_store_41 ?_
      refine lv_i2l hx hb dX6_store_42 rfl ?_
      refine lv_bipush (v := (nI 10)) hx hb dX6_store_43 (by decide) ?_
      refine lv_iload hx hb dX6_store_45 (lv_at hl 4 rfl) ?_
      refine lv_imul hx hb dX6_store_47 ?_
      refine lv_lshl hx hb dX6_store_48 rfl ?_
      refine lv_lor hx hb dX6_store_49 ?_
      refine lv_lstore_n (lv' := [(3, .long (v3 ||| ((((x26 ||| (x28 <<< ((nI 5) &&& 31))) : Int32).toInt64) <<< ((((nI 10) * v5) : Int32).toInt64 &&& 63)))), (0, .ref h_0), (1, .ref h_0_known), (2, .int v2), (5, .int v5)]) hx hb dX6_store_50 rfl hl (by decide) rfl (fun ls hl => ?_)
      refine lv_iinc (v := v5 + (nI 1)) (lv' := [(5, .int (v5 + (nI 1))), (3, .long (v3 ||| ((((x26 ||| (x28 <<< ((nI 5) &&& 31))) : Int32).toInt64) <<< ((((nI 10) * v5) : Int32).toInt64 &&& 63)))), (0, .ref h_0), (1, .ref h_0_known), (2, .int v2)]) hx hb dX6_store_51 hl (k := 4) rfl rfl (by decide) rfl (fun ls hl => ?_)
      refine lv_goto (tgt := 5) hx hb dX6_store_54 (by decide) ?_
      exact hK5 L_0u24 v2 (v3 ||| ((((x26 ||| (x28 <<< ((nI 5) &&& 31))) : Int32).toInt64) <<< ((((nI 10) * v5) : Int32).toInt64 &&& 63))) (v5 + (nI 1)) _ _ _ hS (lv_sub hl [2, 3, 4, 1, 0] rfl) hF
  have L5 : ∀  (n : Nat) (L_0 : Nat → Nat → Int64) (v2 : Int32) (v3 : Int64) (v5 : Int32) (H : Heap) (locs : List Loc) (ls : Array Slot), HS D A H0 [(h_0, oX6 h_0_of h_0_kept h_0_column h_0_size h_0_hidden h_0_cell h_0_home h_0_waste h_0_stock h_0_past h_0_start h_0_known h_0_sorted h_0_row h_0_best I_0), (h_0_of, eI cI 9 (I_0 1)), (h_0_kept, eI cI 9 (I_0 2)), (h_0_column, eJ cJ 5 (L_0 0)), (h_0_size, eI cI 5 (I_0 3)), (h_0_hidden, eI cI 5 (I_0 4)), (h_0_cell, eI cI 2 (I_0 5)), (h_0_home, eI cI 4 (I_0 6)), (h_0_waste, eI cI 8 (I_0 7)), (h_0_stock, eI cI 8 (I_0 8)), (h_0_past, eJ cJ 1616 (L_0 1)), (h_0_start, eJ cJ 8 (L_0 2)), (h_0_known, eJ cJ 3216 (L_0 3)), (h_0_sorted, eJ cJ 3216 (L_0 4)), (h_0_row, eI cI 16 (I_0 9)), (h_0_best, eJ cJ 8 (L_0 5))] H locs → lv_has ls 10 [(0, .ref h_0), (1, .ref h_0_known), (2, .int v2), (3, .long v3), (5, .int v5)] → F_X6_store_L5 I_0 3 3216  n L_0 v2 v3 v5 = some r_L_0 → W p l e ({ frames := 0, cells := 0, slots := 0, locals := 0 } : Room) s m args below meth c H locs 0 0 Q (F0 m 5 ls []) := by
    intro  n
    induction n with
    | zero => intro L_0 v2 v3 v5 H locs ls hS hl hF; exact nomatch (show (none : Option ((Nat → Nat → Int64))) = some _ from hF)
    | succ n ih => intro L_0 v2 v3 v5 H locs ls hS hl hF; exact S5  _ ih L_0 v2 v3 v5 H locs ls hS hl hF
  unfold F_X6_store at hF
  refine lv_lconst (v := (lN 0)) hx hb dX6_store_0 (by decide) ?_
  refine lv_lstore_n (lv' := [(3, .long (lN 0)), (0, .ref h_0), (1, .ref h_0_known), (2, .int v2)]) hx hb dX6_store_1 rfl hl (by decide) rfl (fun ls hl => ?_)
  refine lv_iconst (v := (nI 0)) hx hb dX6_store_2 (by decide) ?_
  refine lv_istore (lv' := [(5, .int (nI 0)), (3, .long (lN 0)), (0, .ref h_0), (1, .ref h_0_known), (2, .int v2)]) hx hb dX6_store_3 hl (by decide) rfl (fun ls hl => ?_)
  exact L5 FU L_0 v2 (lN 0) (nI 0) _ _ _ hS (lv_sub hl [2, 3, 4, 1, 0] rfl) hF
set_option maxHeartbeats 4000000 in
set_option maxRecDepth 100000 in
theorem c_X6_store_sorted (l : Launch) (D : va_G) (cI cJ : ClassId) (h_0 h_0_of h_0_kept h_0_column h_0_size h_0_hidden h_0_cell h_0_home h_0_waste h_0_stock h_0_past h_0_start h_0_known h_0_sorted h_0_row h_0_best : Nat) (I_0 : Nat → Nat → Int32) (L_0 : Nat → Nat → Int64) (v2 : Int32) (r_L_0 : Nat → Nat → Int64) (hF : F_X6_store I_0 4 3216 L_0 v2 = some r_L_0) : CtV l D [(cI, .int), (cJ, .long)] yX6_store wtX6_store ({ frames := 0, cells := 0, slots := 0, locals := 0 } : Room) [.ref h_0, .ref h_0_sorted, .int v2] [(h_0, oX6 h_0_of h_0_kept h_0_column h_0_size h_0_hidden h_0_cell h_0_home h_0_waste h_0_stock h_0_past h_0_start h_0_known h_0_sorted h_0_row h_0_best I_0), (h_0_of, eI cI 9 (I_0 1)), (h_0_kept, eI cI 9 (I_0 2)), (h_0_column, eJ cJ 5 (L_0 0)), (h_0_size, eI cI 5 (I_0 3)), (h_0_hidden, eI cI 5 (I_0 4)), (h_0_cell, eI cI 2 (I_0 5)), (h_0_home, eI cI 4 (I_0 6)), (h_0_waste, eI cI 8 (I_0 7)), (h_0_stock, eI cI 8 (I_0 8)), (h_0_past, eJ cJ 1616 (L_0 1)), (h_0_start, eJ cJ 8 (L_0 2)), (h_0_known, eJ cJ 3216 (L_0 3)), (h_0_sorted, eJ cJ 3216 (L_0 4)), (h_0_row, eI cI 16 (I_0 9)), (h_0_best, eJ cJ 8 (L_0 5))] [(h_0, oX6 h_0_of h_0_kept h_0_column h_0_size h_0_hidden h_0_cell h_0_home h_0_waste h_0_stock h_0_past h_0_start h_0_known h_0_sorted h_0_row h_0_best I_0), (h_0_of, eI cI 9 (I_0 1)), (h_0_kept, eI cI 9 (I_0 2)), (h_0_column, eJ cJ 5 (r_L_0 0)), (h_0_size, eI cI 5 (I_0 3)), (h_0_hidden, eI cI 5 (I_0 4)), (h_0_cell, eI cI 2 (I_0 5)), (h_0_home, eI cI 4 (I_0 6)), (h_0_waste, eI cI 8 (I_0 7)), (h_0_stock, eI cI 8 (I_0 8)), (h_0_past, eJ cJ 1616 (r_L_0 1)), (h_0_start, eJ cJ 8 (r_L_0 2)), (h_0_known, eJ cJ 3216 (r_L_0 3)), (h_0_sorted, eJ cJ 3216 (r_L_0 4)), (h_0_row, eI cI 16 (I_0 9)), (h_0_best, eJ cJ 8 (r_L_0 5))] := by
  refine CtV.of (cc := cX6_store) (maxL := 10) (by decide) rfl (Nat.le_of_ble_eq_true rfl) ?_
  intro p e s m args below meth c A H0 Q ls X hS hl kret
  have hCF := X.1
  obtain ⟨⟨hx, hb, hml, hown, hts⟩, hK, hA⟩ := X
  have hl : lv_has ls 10 [(0, .ref h_0), (1, .ref h_0_sorted), (2, .int v2)] := hl
  have q0 := hts (.fieldLink RX6 120 "PatienceryModel" "left" "I") (List.mem_cons_of_mem _ mw_190)
  have inX6 : ∀ w ∈ u_ws RX6 TX6 32, w ∈ wtX6_store := fun w h => List.mem_cons_of_mem _ (inlX6 w h)
  have q2 := hts (.fieldLink RX6 51 "PatienceryModel" "stock" "[I") (List.mem_cons_of_mem _ mw_169)
  have q3 := hts (.fieldLink RX6 117 "PatienceryModel" "wasted" "I") (List.mem_cons_of_mem _ mw_195)
  have q4 := hts (.fieldLink RX6 48 "PatienceryModel" "waste" "[I") (List.mem_cons_of_mem _ mw_168)
  have q5 := hts (.fieldLink RX6 45 "PatienceryModel" "home" "[I") (List.mem_cons_of_mem _ mw_167)
  have q6 := hts (.fieldLink RX6 42 "PatienceryModel" "cell" "[I") (List.mem_cons_of_mem _ mw_166)
  have q7 := hts (.fieldLink RX6 123 "PatienceryModel" "turned" "I") (List.mem_cons_of_mem _ mw_196)
  have q8 := hts (.fieldLink RX6 32 "PatienceryModel" "column" "[J") (List.mem_cons_of_mem _ mw_163)
  have q9 := hts (.fieldLink RX6 36 "PatienceryModel" "size" "[I") (List.mem_cons_of_mem _ mw_164)
  have q10 := hts (.fieldLink RX6 39 "PatienceryModel" "hidden" "[I") (List.mem_cons_of_mem _ mw_165)
  have B241 : ∀ (L_0 : Nat → Nat → Int64) (v2 : Int32) (v7 : Int64) (H : Heap) (locs : List Loc) (ls : Array Slot), HS D A H0 [(h_0, oX6 h_0_of h_0_kept h_0_column h_0_size h_0_hidden h_0_cell h_0_home h_0_waste h_0_stock h_0_past h_0_start h_0_known h_0_sorted h_0_row h_0_best I_0), (h_0_of, eI cI 9 (I_0 1)), (h_0_kept, eI cI 9 (I_0 2)), (h_0_column, eJ cJ 5 (L_0 0)), (h_0_size, eI cI 5 (I_0 3)), (h_0_hidden, eI cI 5 (I_0 4)), (h_0_cell, eI cI 2 (I_0 5)), (h_0_home, eI cI 4 (I_0 6)), (h_0_waste, eI cI 8 (I_0 7)), (h_0_stock, eI cI 8 (I_0 8)), (h_0_past, eJ cJ 1616 (L_0 1)), (h_0_start, eJ cJ 8 (L_0 2)), (h_0_known, eJ cJ 3216 (L_0 3)), (h_0_sorted, eJ cJ 3216 (L_0 4)), (h_0_row, eI cI 16 (I_0 9)), (h_0_best, eJ cJ 8 (L_0 5))] H locs → lv_has ls 10 [(1, .ref h_0_sorted), (2, .int v2), (7, .long v7)] → F_X6_store_b241 I_0 4 3216  L_0 v2 v7 = some r_L_0 → W p l e ({ frames := 0, cells := 0, slots := 0, locals := 0 } : Room) s m args below meth c H locs 0 0 Q (F0 m 241 ls []) := by
    intro L_0 v2 v7 H locs ls hS hl hF
    unfold F_X6_store_b241 at hF
    refine lv_aload_n hx hb dX6_store_241 rfl (lv_at hl 0 rfl) ?_
    refine lv_iload_n hx hb dX6_store_242 rfl (lv_at hl 1 rfl) ?_
    refine lv_bipush (v := (nI 7)) hx hb dX6_store_243 (by decide) ?_
    refine lv_iadd hx hb dX6_store_245 ?_
    refine lv_lload hx hb dX6_store_246 (lv_at hl 2 rfl) ?_
    replace hF := wrJ_e hF
    obtain ⟨hi2, L_0u1, eL_0u1, hF⟩ := hF
    refine r_last (w2 := [(h_0, oX6 h_0_of h_0_kept h_0_column h_0_size h_0_hidden h_0_cell h_0_home h_0_waste h_0_stock h_0_past h_0_start h_0_known h_0_sorted h_0_row h_0_best I_0), (h_0_of, eI cI 9 (I_0 1)), (h_0_kept, eI cI 9 (I_0 2)), (h_0_column, eJ cJ 5 (L_0u1 0)), (h_0_size, eI cI 5 (I_0 3)), (h_0_hidden, eI cI 5 (I_0 4)), (h_0_cell, eI cI 2 (I_0 5)), (h_0_home, eI cI 4 (I_0 6)), (h_0_waste, eI cI 8 (I_0 7)), (h_0_stock, eI cI 8 (I_0 8)), (h_0_past, eJ cJ 1616 (L_0u1 1)), (h_0_start, eJ cJ 8 (L_0u1 2)), (h_0_known, eJ cJ 3216 (L_0u1 3)), (h_0_sorted, eJ cJ 3216 (L_0u1 4)), (h_0_row, eI cI 16 (I_0 9)), (h_0_best, eJ cJ 8 (L_0u1 5))]) hx hb hK hS 13 rfl rfl hi2 dX6_store_248 (by rw [eL_0u1]; rfl) (fun H locs hS => ?_)
    have e9_0 := Option.some.inj hF
    subst e9_0
    exact kret _ _ _ _ hS dX6_store_249
  have B232 : ∀ (K163 : (Nat → Nat → Int64) → Int32 → Int64 → Int32 → Option ((Nat → Nat → Int64))) (_ : ∀ (L_0 : Nat → Nat → Int64) (v2 : Int32) (v7 : Int64) (v9 : Int32) (H : Heap) (locs : List Loc) (ls : Array Slot), HS D A H0 [(h_0, oX6 h_0_of h_0_kept h_0_column h_0_size h_0_hidden h_0_cell h_0_home h_0_waste h_0_stock h_0_past h_0_start h_0_known h_0_sorted h_0_row h_0_best I_0), (h_0_of, eI cI 9 (I_0 1)), (h_0_kept, eI cI 9 (I_0 2)), (h_0_column, eJ cJ 5 (L_0 0)), (h_0_size, eI cI 5 (I_0 3)), (h_0_hidden, eI cI 5 (I_0 4)), (h_0_cell, eI cI 2 (I_0 5)), (h_0_home, eI cI 4 (I_0 6)), (h_0_waste, eI cI 8 (I_0 7)), (h_0_stock, eI cI 8 (I_0 8)), (h_0_past, eJ cJ 1616 (L_0 1)), (h_0_start, eJ cJ 8 (L_0 2)), (h_0_known, eJ cJ 3216 (L_0 3)), (h_0_sorted, eJ cJ 3216 (L_0 4)), (h_0_row, eI cI 16 (I_0 9)), (h_0_best, eJ cJ 8 (L_0 5))] H locs → lv_has ls 10 [(0, .ref h_0), (1, .ref h_0_sorted), (2, .int v2), (7, .long v7), (9, .int v9)] → K163 L_0 v2 v7 v9 = some r_L_0 → W p l e ({ frames := 0, cells := 0, slots := 0, locals := 0 } : Room) s m args below meth c H locs 0 0 Q (F0 m 163 ls [])) (L_0 : Nat → Nat → Int64) (v2 : Int32) (v9 : Int32) (s0 : Int64) (s1 : Int64) (H : Heap) (locs : List Loc) (ls : Array Slot), HS D A H0 [(h_0, oX6 h_0_of h_0_kept h_0_column h_0_size h_0_hidden h_0_cell h_0_home h_0_waste h_0_stock h_0_past h_0_start h_0_known h_0_sorted h_0_row h_0_best I_0), (h_0_of, eI cI 9 (I_0 1)), (h_0_kept, eI cI 9 (I_0 2)), (h_0_column, eJ cJ 5 (L_0 0)), (h_0_size, eI cI 5 (I_0 3)), (h_0_hidden, eI cI 5 (I_0 4)), (h_0_cell, eI cI 2 (I_0 5)), (h_0_home, eI cI 4 (I_0 6)), (h_0_waste, eI cI 8 (I_0 7)), (h_0_stock, eI cI 8 (I_0 8)), (h_0_past, eJ cJ 1616 (L_0 1)), (h_0_start, eJ cJ 8 (L_0 2)), (h_0_known, eJ cJ 3216 (L_0 3)), (h_0_sorted, eJ cJ 3216 (L_0 4)), (h_0_row, eI cI 16 (I_0 9)), (h_0_best, eJ cJ 8 (L_0 5))] H locs → lv_has ls 10 [(0, .ref h_0), (1, .ref h_0_sorted), (2, .int v2), (9, .int v9)] → F_X6_store_b232 I_0 4 3216 K163 L_0 v2 v9 s0 s1 = some r_L_0 → W p l e ({ frames := 0, cells := 0, slots := 0, locals := 0 } : Room) s m args below meth c H locs 0 0 Q (F0 m 232 ls [.long s1, .long s0]) := by
    intro K163 hK163 L_0 v2 v9 s0 s1 H locs ls hS hl hF
    unfold F_X6_store_b232 at hF
    refine lv_lor hx hb dX6_store_232 ?_
    refine lv_lstore (lv' := [(7, .long (s0 ||| s1)), (0, .ref h_0), (1, .ref h_0_sorted), (2, .int v2), (9, .int v9)]) hx hb dX6_store_233 hl (by decide) rfl (fun ls hl => ?_)
    refine lv_iinc (v := v9 + (nI 1)) (lv' := [(9, .int (v9 + (nI 1))), (7, .long (s0 ||| s1)), (0, .ref h_0), (1, .ref h_0_sorted), (2, .int v2)]) hx hb dX6_store_235 hl (k := 4) rfl rfl (by decide) rfl (fun ls hl => ?_)
    refine lv_goto (tgt := 163) hx hb dX6_store_238 (by decide) ?_
    exact hK163 L_0 v2 (s0 ||| s1) (v9 + (nI 1)) _ _ _ hS (lv_sub hl [2, 3, 4, 1, 0] rfl) hF
  have B198 : ∀ (K163 : (Nat → Nat → Int64) → Int32 → Int64 → Int32 → Option ((Nat → Nat → Int64))) (_ : ∀ (L_0 : Nat → Nat → Int64) (v2 : Int32) (v7 : Int64) (v9 : Int32) (H : Heap) (locs : List Loc) (ls : Array Slot), HS D A H0 [(h_0, oX6 h_0_of h_0_kept h_0_column h_0_size h_0_hidden h_0_cell h_0_home h_0_waste h_0_stock h_0_past h_0_start h_0_known h_0_sorted h_0_row h_0_best I_0), (h_0_of, eI cI 9 (I_0 1)), (h_0_kept, eI cI 9 (I_0 2)), (h_0_column, eJ cJ 5 (L_0 0)), (h_0_size, eI cI 5 (I_0 3)), (h_0_hidden, eI cI 5 (I_0 4)), (h_0_cell, eI cI 2 (I_0 5)), (h_0_home, eI cI 4 (I_0 6)), (h_0_waste, eI cI 8 (I_0 7)), (h_0_stock, eI cI 8 (I_0 8)), (h_0_past, eJ cJ 1616 (L_0 1)), (h_0_start, eJ cJ 8 (L_0 2)), (h_0_known, eJ cJ 3216 (L_0 3)), (h_0_sorted, eJ cJ 3216 (L_0 4)), (h_0_row, eI cI 16 (I_0 9)), (h_0_best, eJ cJ 8 (L_0 5))] H locs → lv_has ls 10 [(0, .ref h_0), (1, .ref h_0_sorted), (2, .int v2), (7, .long v7), (9, .int v9)] → K163 L_0 v2 v7 v9 = some r_L_0 → W p l e ({ frames := 0, cells := 0, slots := 0, locals := 0 } : Room) s m args below meth c H locs 0 0 Q (F0 m 163 ls [])) (L_0 : Nat → Nat → Int64) (v2 : Int32) (v9 : Int32) (s0 : Int64) (s1 : Int64) (H : Heap) (locs : List Loc) (ls : Array Slot), HS D A H0 [(h_0, oX6 h_0_of h_0_kept h_0_column h_0_size h_0_hidden h_0_cell h_0_home h_0_waste h_0_stock h_0_past h_0_start h_0_known h_0_sorted h_0_row h_0_best I_0), (h_0_of, eI cI 9 (I_0 1)), (h_0_kept, eI cI 9 (I_0 2)), (h_0_column, eJ cJ 5 (L_0 0)), (h_0_size, eI cI 5 (I_0 3)), (h_0_hidden, eI cI 5 (I_0 4)), (h_0_cell, eI cI 2 (I_0 5)), (h_0_home, eI cI 4 (I_0 6)), (h_0_waste, eI cI 8 (I_0 7)), (h_0_stock, eI cI 8 (I_0 8)), (h_0_past, eJ cJ 1616 (L_0 1)), (h_0_start, eJ cJ 8 (L_0 2)), (h_0_known, eJ cJ 3216 (L_0 3)), (h_0_sorted, eJ cJ 3216 (L_0 4)), (h_0_row, eI cI 16 (I_0 9)), (h_0_best, eJ cJ 8 (L_0 5))] H locs → lv_has ls 10 [(0, .ref h_0), (1, .ref h_0_sorted), (2, .int v2), (9, .int v9)] → F_X6_store_b198 I_0 4 3216 K163 L_0 v2 v9 s0 s1 = some r_L_0 → W p l e ({ frames := 0, cells := 0, slots := 0, locals := 0 } : Room) s m args below meth c H locs 0 0 Q (F0 m 198 ls [.long s1, .long s0]) := by
    intro K163 hK163 L_0 v2 v9 s0 s1 H locs ls hS hl hF
    unfold F_X6_store_b198 at hF
    refine lv_lor hx hb dX6_store_198 ?_
    refine lv_lstore (lv' := [(7, .long (s0 ||| s1)), (0, .ref h_0), (1, .ref h_0_sorted), (2, .int v2), (9, .int v9)]) hx hb dX6_store_199 hl (by decide) rfl (fun ls hl => ?_)
    refine lv_lload hx hb dX6_store_201 (lv_at hl 0 rfl) ?_
    refine lv_iload hx hb dX6_store_203 (lv_at hl 4 rfl) ?_
    refine lv_aload_n hx hb dX6_store_205 rfl (lv_at hl 1 rfl) ?_
    refine r_get hx hb hts inX6 hown hK hS 0 23 rfl rfl (by decide) q0 rfl dX6_store_206 ?_
    refine lv_icmp_ge (tgt := 231) hx hb dX6_store_209 (by decide) (fun c_3 => ?_) (fun c_3 => ?_)
    · replace hF := ifp hF c_3
      refine lv_lconst (v := (lN 0)) hx hb dX6_store_231 (by decide) ?_
      exact B232 K163 hK163 L_0 v2 v9 (s0 ||| s1) (lN 0) _ _ _ hS (lv_sub hl [1, 2, 3, 4] rfl) hF
    · replace hF := ifn hF c_3
      refine lv_aload_n hx hb dX6_store_212 rfl (lv_at hl 1 rfl) ?_
      refine r_get hx hb hts inX6 hown hK hS 0 22 rfl rfl (by decide) q2 rfl dX6_store_213 ?_
      refine lv_iload hx hb dX6_store_216 (lv_at hl 4 rfl) ?_
      replace hF := rdA_e hF
      obtain ⟨hi5, x4, ex4, hF⟩ := hF
      refine r_iald hx hb hK hS 9 rfl rfl hi5 dX6_store_218 ex4 ?_
      refine lv_i2l hx hb dX6_store_219 rfl ?_
      refine lv_bipush (v := (nI 32)) hx hb dX6_store_220 (by decide) ?_
      refine lv_iconst (v := (nI 4)) hx hb dX6_store_222 (by decide) ?_
      refine lv_iload hx hb dX6_store_223 (lv_at hl 4 rfl) ?_
      refine lv_imul hx hb dX6_store_225 ?_
      refine lv_iadd hx hb dX6_store_226 ?_
      refine lv_lshl hx hb dX6_store_227 rfl ?_
      refine lv_goto (tgt := 232) hx hb dX6_store_228 (by decide) ?_
      exact B232 K163 hK163 L_0 v2 v9 (s0 ||| s1) ((x4.toInt64) <<< ((((nI 32) + ((nI 4) * v9)) : Int32).toInt64 &&& 63)) _ _ _ hS (lv_sub hl [1, 2, 3, 4] rfl) hF
  have S163 : ∀ (K163 : (Nat → Nat → Int64) → Int32 → Int64 → Int32 → Option ((Nat → Nat → Int64))) (_ : ∀ (L_0 : Nat → Nat → Int64) (v2 : Int32) (v7 : Int64) (v9 : Int32) (H : Heap) (locs : List Loc) (ls : Array Slot), HS D A H0 [(h_0, oX6 h_0_of h_0_kept h_0_column h_0_size h_0_hidden h_0_cell h_0_home h_0_waste h_0_stock h_0_past h_0_start h_0_known h_0_sorted h_0_row h_0_best I_0), (h_0_of, eI cI 9 (I_0 1)), (h_0_kept, eI cI 9 (I_0 2)), (h_0_column, eJ cJ 5 (L_0 0)), (h_0_size, eI cI 5 (I_0 3)), (h_0_hidden, eI cI 5 (I_0 4)), (h_0_cell, eI cI 2 (I_0 5)), (h_0_home, eI cI 4 (I_0 6)), (h_0_waste, eI cI 8 (I_0 7)), (h_0_stock, eI cI 8 (I_0 8)), (h_0_past, eJ cJ 1616 (L_0 1)), (h_0_start, eJ cJ 8 (L_0 2)), (h_0_known, eJ cJ 3216 (L_0 3)), (h_0_sorted, eJ cJ 3216 (L_0 4)), (h_0_row, eI cI 16 (I_0 9)), (h_0_best, eJ cJ 8 (L_0 5))] H locs → lv_has ls 10 [(0, .ref h_0), (1, .ref h_0_sorted), (2, .int v2), (7, .long v7), (9, .int v9)] → K163 L_0 v2 v7 v9 = some r_L_0 → W p l e ({ frames := 0, cells := 0, slots := 0, locals := 0 } : Room) s m args below meth c H locs 0 0 Q (F0 m 163 ls [])) (L_0 : Nat → Nat → Int64) (v2 : Int32) (v7 : Int64) (v9 : Int32) (H : Heap) (locs : List Loc) (ls : Array Slot), HS D A H0 [(h_0, oX6 h_0_of h_0_kept h_0_column h_0_size h_0_hidden h_0_cell h_0_home h_0_waste h_0_stock h_0_past h_0_start h_0_known h_0_sorted h_0_row h_0_best I_0), (h_0_of, eI cI 9 (I_0 1)), (h_0_kept, eI cI 9 (I_0 2)), (h_0_column, eJ cJ 5 (L_0 0)), (h_0_size, eI cI 5 (I_0 3)), (h_0_hidden, eI cI 5 (I_0 4)), (h_0_cell, eI cI 2 (I_0 5)), (h_0_home, eI cI 4 (I_0 6)), (h_0_waste, eI cI 8 (I_0 7)), (h_0_stock, eI cI 8 (I_0 8)), (h_0_past, eJ cJ 1616 (L_0 1)), (h_0_start, eJ cJ 8 (L_0 2)), (h_0_known, eJ cJ 3216 (L_0 3)), (h_0_sorted, eJ cJ 3216 (L_0 4)), (h_0_row, eI cI 16 (I_0 9)), (h_0_best, eJ cJ 8 (L_0 5))] H locs → lv_has ls 10 [(0, .ref h_0), (1, .ref h_0_sorted), (2, .int v2), (7, .long v7), (9, .int v9)] → F_X6_store_s163 I_0 4 3216 K163 L_0 v2 v7 v9 = some r_L_0 → W p l e ({ frames := 0, cells := 0, slots := 0, locals := 0 } : Room) s m args below meth c H locs 0 0 Q (F0 m 163 ls []) := by
    intro K163 hK163 L_0 v2 v7 v9 H locs ls hS hl hF
    unfold F_X6_store_s163 at hF
    refine lv_iload hx hb dX6_store_163 (lv_at hl 4 rfl) ?_
    refine lv_bipush (v := (nI 8)) hx hb dX6_store_165 (by decide) ?_
    refine lv_icmp_ge (tgt := 241) hx hb dX6_store_167 (by decide) (fun c_6 => ?_) (fun c_6 => ?_)
    · replace hF := ifp hF c_6
      exact B241 L_0 v2 v7 _ _ _ hS (lv_sub hl [1, 2, 3] rfl) hF
    · replace hF := ifn hF c_6
      refine lv_lload hx hb dX6_store_170 (lv_at hl 3 rfl) ?_
      refine lv_iload hx hb dX6_store_172 (lv_at hl 4 rfl) ?_
      refine lv_aload_n hx hb dX6_store_174 rfl (lv_at hl 0 rfl) ?_
      refine r_get hx hb hts inX6 hown hK hS 0 21 rfl rfl (by decide) q3 rfl dX6_store_175 ?_
      refine lv_icmp_ge (tgt := 197) hx hb dX6_store_178 (by decide) (fun c_7 => ?_) (fun c_7 => ?_)
      · replace hF := ifp hF c_7
        refine lv_lconst (v := (lN 0)) hx hb dX6_store_197 (by decide) ?_
        exact B198 K163 hK163 L_0 v2 v9 v7 (lN 0) _ _ _ hS (lv_sub hl [0, 1, 2, 4] rfl) hF
      · replace hF := ifn hF c_7
        refine lv_aload_n hx hb dX6_store_181 rfl (lv_at hl 0 rfl) ?_
        refine r_get hx hb hts inX6 hown hK hS 0 20 rfl rfl (by decide) q4 rfl dX6_store_182 ?_
        refine lv_iload hx hb dX6_store_185 (lv_at hl 4 rfl) ?_
        replace hF := rdA_e hF
        obtain ⟨hi9, x8, ex8, hF⟩ := hF
        refine r_iald hx hb hK hS 8 rfl rfl hi9 dX6_store_187 ex8 ?_
        refine lv_i2l hx hb dX6_store_188 rfl ?_
        refine lv_iconst (v := (nI 4)) hx hb dX6_store_189 (by decide) ?_
        refine lv_iload hx hb dX6_store_190 (lv_at hl 4 rfl) ?_
        refine lv_imul hx hb dX6_store_192 ?_
        refine lv_lshl hx hb dX6_store_193 rfl ?_
        refine lv_goto (tgt := 198) hx hb dX6_store_194 (by decide) ?_
        exact B198 K163 hK163 L_0 v2 v9 v7 ((x8.toInt64) <<< ((((nI 4) * v9) : Int32).toInt64 &&& 63)) _ _ _ hS (lv_sub hl [0, 1, 2, 4] rfl) hF
  have L163 : ∀  (n : Nat) (L_0 : Nat → Nat → Int64) (v2 : Int32) (v7 : Int64) (v9 : Int32) (H : Heap) (locs : List Loc) (ls : Array Slot), HS D A H0 [(h_0, oX6 h_0_of h_0_kept h_0_column h_0_size h_0_hidden h_0_cell h_0_home h_0_waste h_0_stock h_0_past h_0_start h_0_known h_0_sorted h_0_row h_0_best I_0), (h_0_of, eI cI 9 (I_0 1)), (h_0_kept, eI cI 9 (I_0 2)), (h_0_column, eJ cJ 5 (L_0 0)), (h_0_size, eI cI 5 (I_0 3)), (h_0_hidden, eI cI 5 (I_0 4)), (h_0_cell, eI cI 2 (I_0 5)), (h_0_home, eI cI 4 (I_0 6)), (h_0_waste, eI cI 8 (I_0 7)), (h_0_stock, eI cI 8 (I_0 8)), (h_0_past, eJ cJ 1616 (L_0 1)), (h_0_start, eJ cJ 8 (L_0 2)), (h_0_known, eJ cJ 3216 (L_0 3)), (h_0_sorted, eJ cJ 3216 (L_0 4)), (h_0_row, eI cI 16 (I_0 9)), (h_0_best, eJ cJ 8 (L_0 5))] H locs → lv_has ls 10 [(0, .ref h_0), (1, .ref h_0_sorted), (2, .int v2), (7, .long v7), (9, .int v9)] → F_X6_store_L163 I_0 4 3216  n L_0 v2 v7 v9 = some r_L_0 → W p l e ({ frames := 0, cells := 0, slots := 0, locals := 0 } : Room) s m args below meth c H locs 0 0 Q (F0 m 163 ls []) := by
    intro  n
    induction n with
    | zero => intro L_0 v2 v7 v9 H locs ls hS hl hF; exact nomatch (show (none : Option ((Nat → Nat → Int64))) = some _ from hF)
    | succ n ih => intro L_0 v2 v7 v9 H locs ls hS hl hF; exact S163  _ ih L_0 v2 v7 v9 H locs ls hS hl hF
  have B149 : ∀ (L_0 : Nat → Nat → Int64) (v2 : Int32) (v5 : Int64) (H : Heap) (locs : List Loc) (ls : Array Slot), HS D A H0 [(h_0, oX6 h_0_of h_0_kept h_0_column h_0_size h_0_hidden h_0_cell h_0_home h_0_waste h_0_stock h_0_past h_0_start h_0_known h_0_sorted h_0_row h_0_best I_0), (h_0_of, eI cI 9 (I_0 1)), (h_0_kept, eI cI 9 (I_0 2)), (h_0_column, eJ cJ 5 (L_0 0)), (h_0_size, eI cI 5 (I_0 3)), (h_0_hidden, eI cI 5 (I_0 4)), (h_0_cell, eI cI 2 (I_0 5)), (h_0_home, eI cI 4 (I_0 6)), (h_0_waste, eI cI 8 (I_0 7)), (h_0_stock, eI cI 8 (I_0 8)), (h_0_past, eJ cJ 1616 (L_0 1)), (h_0_start, eJ cJ 8 (L_0 2)), (h_0_known, eJ cJ 3216 (L_0 3)), (h_0_sorted, eJ cJ 3216 (L_0 4)), (h_0_row, eI cI 16 (I_0 9)), (h_0_best, eJ cJ 8 (L_0 5))] H locs → lv_has ls 10 [(0, .ref h_0), (1, .ref h_0_sorted), (2, .int v2), (5, .long v5)] → F_X6_store_b149 I_0 4 3216  L_0 v2 v5 = some r_L_0 → W p l e ({ frames := 0, cells := 0, slots := 0, locals := 0 } : Room) s m args below meth c H locs 0 0 Q (F0 m 149 ls []) := by
    intro L_0 v2 v5 H locs ls hS hl hF
    unfold F_X6_store_b149 at hF
    refine lv_aload_n hx hb dX6_store_149 rfl (lv_at hl 1 rfl) ?_
    refine lv_iload_n hx hb dX6_store_150 rfl (lv_at hl 2 rfl) ?_
    refine lv_bipush (v := (nI 6)) hx hb dX6_store_151 (by decide) ?_
    refine lv_iadd hx hb dX6_store_153 ?_
    refine lv_lload hx hb dX6_store_154 (lv_at hl 3 rfl) ?_
    replace hF := wrJ_e hF
    obtain ⟨hi11, L_0u10, eL_0u10, hF⟩ := hF
    refine r_last (w2 := [(h_0, oX6 h_0_of h_0_kept h_0_column h_0_size h_0_hidden h_0_cell h_0_home h_0_waste h_0_stock h_0_past h_0_start h_0_known h_0_sorted h_0_row h_0_best I_0), (h_0_of, eI cI 9 (I_0 1)), (h_0_kept, eI cI 9 (I_0 2)), (h_0_column, eJ cJ 5 (L_0u10 0)), (h_0_size, eI cI 5 (I_0 3)), (h_0_hidden, eI cI 5 (I_0 4)), (h_0_cell, eI cI 2 (I_0 5)), (h_0_home, eI cI 4 (I_0 6)), (h_0_waste, eI cI 8 (I_0 7)), (h_0_stock, eI cI 8 (I_0 8)), (h_0_past, eJ cJ 1616 (L_0u10 1)), (h_0_start, eJ cJ 8 (L_0u10 2)), (h_0_known, eJ cJ 3216 (L_0u10 3)), (h_0_sorted, eJ cJ 3216 (L_0u10 4)), (h_0_row, eI cI 16 (I_0 9)), (h_0_best, eJ cJ 8 (L_0u10 5))]) hx hb hK hS 13 rfl rfl hi11 dX6_store_156 (by rw [eL_0u10]; rfl) (fun H locs hS => ?_)
    refine lv_lconst (v := (lN 0)) hx hb dX6_store_157 (by decide) ?_
    refine lv_lstore (lv' := [(7, .long (lN 0)), (0, .ref h_0), (1, .ref h_0_sorted), (2, .int v2), (5, .long v5)]) hx hb dX6_store_158 hl (by decide) rfl (fun ls hl => ?_)
    refine lv_iconst (v := (nI 0)) hx hb dX6_store_160 (by decide) ?_
    refine lv_istore (lv' := [(9, .int (nI 0)), (7, .long (lN 0)), (0, .ref h_0), (1, .ref h_0_sorted), (2, .int v2), (5, .long v5)]) hx hb dX6_store_161 hl (by decide) rfl (fun ls hl => ?_)
    exact L163 FU L_0u10 v2 (lN 0) (nI 0) _ _ _ hS (lv_sub hl [2, 3, 4, 1, 0] rfl) hF
  have S116 : ∀ (K116 : (Nat → Nat → Int64) → Int32 → Int64 → Int32 → Option ((Nat → Nat → Int64))) (_ : ∀ (L_0 : Nat → Nat → Int64) (v2 : Int32) (v5 : Int64) (v7 : Int32) (H : Heap) (locs : List Loc) (ls : Array Slot), HS D A H0 [(h_0, oX6 h_0_of h_0_kept h_0_column h_0_size h_0_hidden h_0_cell h_0_home h_0_waste h_0_stock h_0_past h_0_start h_0_known h_0_sorted h_0_row h_0_best I_0), (h_0_of, eI cI 9 (I_0 1)), (h_0_kept, eI cI 9 (I_0 2)), (h_0_column, eJ cJ 5 (L_0 0)), (h_0_size, eI cI 5 (I_0 3)), (h_0_hidden, eI cI 5 (I_0 4)), (h_0_cell, eI cI 2 (I_0 5)), (h_0_home, eI cI 4 (I_0 6)), (h_0_waste, eI cI 8 (I_0 7)), (h_0_stock, eI cI 8 (I_0 8)), (h_0_past, eJ cJ 1616 (L_0 1)), (h_0_start, eJ cJ 8 (L_0 2)), (h_0_known, eJ cJ 3216 (L_0 3)), (h_0_sorted, eJ cJ 3216 (L_0 4)), (h_0_row, eI cI 16 (I_0 9)), (h_0_best, eJ cJ 8 (L_0 5))] H locs → lv_has ls 10 [(0, .ref h_0), (1, .ref h_0_sorted), (2, .int v2), (5, .long v5), (7, .int v7)] → K116 L_0 v2 v5 v7 = some r_L_0 → W p l e ({ frames := 0, cells := 0, slots := 0, locals := 0 } : Room) s m args below meth c H locs 0 0 Q (F0 m 116 ls [])) (L_0 : Nat → Nat → Int64) (v2 : Int32) (v5 : Int64) (v7 : Int32) (H : Heap) (locs : List Loc) (ls : Array Slot), HS D A H0 [(h_0, oX6 h_0_of h_0_kept h_0_column h_0_size h_0_hidden h_0_cell h_0_home h_0_waste h_0_stock h_0_past h_0_start h_0_known h_0_sorted h_0_row h_0_best I_0), (h_0_of, eI cI 9 (I_0 1)), (h_0_kept, eI cI 9 (I_0 2)), (h_0_column, eJ cJ 5 (L_0 0)), (h_0_size, eI cI 5 (I_0 3)), (h_0_hidden, eI cI 5 (I_0 4)), (h_0_cell, eI cI 2 (I_0 5)), (h_0_home, eI cI 4 (I_0 6)), (h_0_waste, eI cI 8 (I_0 7)), (h_0_stock, eI cI 8 (I_0 8)), (h_0_past, eJ cJ 1616 (L_0 1)), (h_0_start, eJ cJ 8 (L_0 2)), (h_0_known, eJ cJ 3216 (L_0 3)), (h_0_sorted, eJ cJ 3216 (L_0 4)), (h_0_row, eI cI 16 (I_0 9)), (h_0_best, eJ cJ 8 (L_0 5))] H locs → lv_has ls 10 [(0, .ref h_0), (1, .ref h_0_sorted), (2, .int v2), (5, .long v5), (7, .int v7)] → F_X6_store_s116 I_0 4 3216 K116 L_0 v2 v5 v7 = some r_L_0 → W p l e ({ frames := 0, cells := 0, slots := 0, locals := 0 } : Room) s m args below meth c H locs 0 0 Q (F0 m 116 ls []) := by
    intro K116 hK116 L_0 v2 v5 v7 H locs ls hS hl hF
    unfold F_X6_store_s116 at hF
    refine lv_iload hx hb dX6_store_116 (lv_at hl 4 rfl) ?_
    refine lv_iconst (v := (nI 4)) hx hb dX6_store_118 (by decide) ?_
    refine lv_icmp_ge (tgt := 149) hx hb dX6_store_119 (by decide) (fun c_12 => ?_) (fun c_12 => ?_)
    · replace hF := ifp hF c_12
      exact B149 L_0 v2 v5 _ _ _ hS (lv_sub hl [0, 1, 2, 3] rfl) hF
    · replace hF := ifn hF c_12
      refine lv_lload hx hb dX6_store_122 (lv_at hl 3 rfl) ?_
      refine lv_aload_n hx hb dX6_store_124 rfl (lv_at hl 0 rfl) ?_
      refine r_get hx hb hts inX6 hown hK hS 0 19 rfl rfl (by decide) q5 rfl dX6_store_125 ?_
      refine lv_iload hx hb dX6_store_128 (lv_at hl 4 rfl) ?_
      replace hF := rdA_e hF
      obtain ⟨hi14, x13, ex13, hF⟩ := hF
      refine r_iald hx hb hK hS 7 rfl rfl hi14 dX6_store_130 ex13 ?_
      refine lv_i2l hx hb dX6_store_131 rfl ?_
      refine lv_bipush (v := (nI 20)) hx hb dX6_store_132 (by decide) ?_
      refine lv_iconst (v := (nI 3)) hx hb dX6_store_134 (by decide) ?_
      refine lv_iload hx hb dX6_store_135 (lv_at hl 4 rfl) ?_
      refine lv_imul hx hb dX6_store_137 ?_
      refine lv_iadd hx hb dX6_store_138 ?_
      refine lv_lshl hx hb dX6_store_139 rfl ?_
      refine lv_lor hx hb dX6_store_140 ?_
      refine lv_lstore (lv' := [(5, .long (v5 ||| ((x13.toInt64) <<< ((((nI 20) + ((nI 3) * v7)) : Int32).toInt64 &&& 63)))), (0, .ref h_0), (1, .ref h_0_sorted), (2, .int v2), (7, .int v7)]) hx hb dX6_store_141 hl (by decide) rfl (fun ls hl => ?_)
      refine lv_iinc (v := v7 + (nI 1)) (lv' := [(7, .int (v7 + (nI 1))), (5, .long (v5 ||| ((x13.toInt64) <<< ((((nI 20) + ((nI 3) * v7)) : Int32).toInt64 &&& 63)))), (0, .ref h_0), (1, .ref h_0_sorted), (2, .int v2)]) hx hb dX6_store_143 hl (k := 4) rfl rfl (by decide) rfl (fun ls hl => ?_)
      refine lv_goto (tgt := 116) hx hb dX6_store_146 (by decide) ?_
      exact hK116 L_0 v2 (v5 ||| ((x13.toInt64) <<< ((((nI 20) + ((nI 3) * v7)) : Int32).toInt64 &&& 63))) (v7 + (nI 1)) _ _ _ hS (lv_sub hl [2, 3, 4, 1, 0] rfl) hF
  have L116 : ∀  (n : Nat) (L_0 : Nat → Nat → Int64) (v2 : Int32) (v5 : Int64) (v7 : Int32) (H : Heap) (locs : List Loc) (ls : Array Slot), HS D A H0 [(h_0, oX6 h_0_of h_0_kept h_0_column h_0_size h_0_hidden h_0_cell h_0_home h_0_waste h_0_stock h_0_past h_0_start h_0_known h_0_sorted h_0_row h_0_best I_0), (h_0_of, eI cI 9 (I_0 1)), (h_0_kept, eI cI 9 (I_0 2)), (h_0_column, eJ cJ 5 (L_0 0)), (h_0_size, eI cI 5 (I_0 3)), (h_0_hidden, eI cI 5 (I_0 4)), (h_0_cell, eI cI 2 (I_0 5)), (h_0_home, eI cI 4 (I_0 6)), (h_0_waste, eI cI 8 (I_0 7)), (h_0_stock, eI cI 8 (I_0 8)), (h_0_past, eJ cJ 1616 (L_0 1)), (h_0_start, eJ cJ 8 (L_0 2)), (h_0_known, eJ cJ 3216 (L_0 3)), (h_0_sorted, eJ cJ 3216 (L_0 4)), (h_0_row, eI cI 16 (I_0 9)), (h_0_best, eJ cJ 8 (L_0 5))] H locs → lv_has ls 10 [(0, .ref h_0), (1, .ref h_0_sorted), (2, .int v2), (5, .long v5), (7, .int v7)] → F_X6_store_L116 I_0 4 3216  n L_0 v2 v5 v7 = some r_L_0 → W p l e ({ frames := 0, cells := 0, slots := 0, locals := 0 } : Room) s m args below meth c H locs 0 0 Q (F0 m 116 ls []) := by
    intro  n
    induction n with
    | zero => intro L_0 v2 v5 v7 H locs ls hS hl hF; exact nomatch (show (none : Option ((Nat → Nat → Int64))) = some _ from hF)
    | succ n ih => intro L_0 v2 v5 v7 H locs ls hS hl hF; exact S116  _ ih L_0 v2 v5 v7 H locs ls hS hl hF
  have B57 : ∀ (L_0 : Nat → Nat → Int64) (v2 : Int32) (v3 : Int64) (H : Heap) (locs : List Loc) (ls : Array Slot), HS D A H0 [(h_0, oX6 h_0_of h_0_kept h_0_column h_0_size h_0_hidden h_0_cell h_0_home h_0_waste h_0_stock h_0_past h_0_start h_0_known h_0_sorted h_0_row h_0_best I_0), (h_0_of, eI cI 9 (I_0 1)), (h_0_kept, eI cI 9 (I_0 2)), (h_0_column, eJ cJ 5 (L_0 0)), (h_0_size, eI cI 5 (I_0 3)), (h_0_hidden, eI cI 5 (I_0 4)), (h_0_cell, eI cI 2 (I_0 5)), (h_0_home, eI cI 4 (I_0 6)), (h_0_waste, eI cI 8 (I_0 7)), (h_0_stock, eI cI 8 (I_0 8)), (h_0_past, eJ cJ 1616 (L_0 1)), (h_0_start, eJ cJ 8 (L_0 2)), (h_0_known, eJ cJ 3216 (L_0 3)), (h_0_sorted, eJ cJ 3216 (L_0 4)), (h_0_row, eI cI 16 (I_0 9)), (h_0_best, eJ cJ 8 (L_0 5))] H locs → lv_has ls 10 [(0, .ref h_0), (1, .ref h_0_sorted), (2, .int v2), (3, .long v3)] → F_X6_store_b57 I_0 4 3216  L_0 v2 v3 = some r_L_0 → W p l e ({ frames := 0, cells := 0, slots := 0, locals := 0 } : Room) s m args below meth c H locs 0 0 Q (F0 m 57 ls []) := by
    intro L_0 v2 v3 H locs ls hS hl hF
    unfold F_X6_store_b57 at hF
    refine lv_aload_n hx hb dX6_store_57 rfl (lv_at hl 1 rfl) ?_
    refine lv_iload_n hx hb dX6_store_58 rfl (lv_at hl 2 rfl) ?_
    refine lv_iconst (v := (nI 5)) hx hb dX6_store_59 (by decide) ?_
    refine lv_iadd hx hb dX6_store_60 ?_
    refine lv_lload_n hx hb dX6_store_61 rfl (lv_at hl 3 rfl) ?_
    replace hF := wrJ_e hF
    obtain ⟨hi16, L_0u15, eL_0u15, hF⟩ := hF
    refine r_last (w2 := [(h_0, oX6 h_0_of h_0_kept h_0_column h_0_size h_0_hidden h_0_cell h_0_home h_0_waste h_0_stock h_0_past h_0_start h_0_known h_0_sorted h_0_row h_0_best I_0), (h_0_of, eI cI 9 (I_0 1)), (h_0_kept, eI cI 9 (I_0 2)), (h_0_column, eJ cJ 5 (L_0u15 0)), (h_0_size, eI cI 5 (I_0 3)), (h_0_hidden, eI cI 5 (I_0 4)), (h_0_cell, eI cI 2 (I_0 5)), (h_0_home, eI cI 4 (I_0 6)), (h_0_waste, eI cI 8 (I_0 7)), (h_0_stock, eI cI 8 (I_0 8)), (h_0_past, eJ cJ 1616 (L_0u15 1)), (h_0_start, eJ cJ 8 (L_0u15 2)), (h_0_known, eJ cJ 3216 (L_0u15 3)), (h_0_sorted, eJ cJ 3216 (L_0u15 4)), (h_0_row, eI cI 16 (I_0 9)), (h_0_best, eJ cJ 8 (L_0u15 5))]) hx hb hK hS 13 rfl rfl hi16 dX6_store_62 (by rw [eL_0u15]; rfl) (fun H locs hS => ?_)
    refine lv_aload_n hx hb dX6_store_63 rfl (lv_at hl 0 rfl) ?_
    refine r_get hx hb hts inX6 hown hK hS 0 18 rfl rfl (by decide) q6 rfl dX6_store_64 ?_
    refine lv_iconst (v := (nI 0)) hx hb dX6_store_67 (by decide) ?_
    replace hF := rdA_e hF
    obtain ⟨hi18, x17, ex17, hF⟩ := hF
    refine r_iald hx hb hK hS 6 rfl rfl hi18 dX6_store_68 ex17 ?_
    refine lv_i2l hx hb dX6_store_69 rfl ?_
    refine lv_lconst (v := (lN 1)) hx hb dX6_store_70 (by decide) ?_
    refine lv_ladd hx hb dX6_store_71 ?_
    refine lv_aload_n hx hb dX6_store_72 rfl (lv_at hl 0 rfl) ?_
    refine r_get hx hb hts inX6 hown hK hS 0 18 rfl rfl (by decide) q6 rfl dX6_store_73 ?_
    refine lv_iconst (v := (nI 1)) hx hb dX6_store_76 (by decide) ?_
    replace hF := rdA_e hF
    obtain ⟨hi20, x19, ex19, hF⟩ := hF
    refine r_iald hx hb hK hS 6 rfl rfl hi20 dX6_store_77 ex19 ?_
    refine lv_i2l hx hb dX6_store_78 rfl ?_
    refine lv_lconst (v := (lN 1)) hx hb dX6_store_79 (by decide) ?_
    refine lv_ladd hx hb dX6_store_80 ?_
    refine lv_iconst (v := (nI 5)) hx hb dX6_store_81 (by decide) ?_
    refine lv_lshl hx hb dX6_store_82 rfl ?_
    refine lv_lor hx hb dX6_store_83 ?_
    refine lv_aload_n hx hb dX6_store_84 rfl (lv_at hl 0 rfl) ?_
    refine r_get hx hb hts inX6 hown hK hS 0 24 rfl rfl (by decide) q7 rfl dX6_store_85 ?_
    refine lv_i2l hx hb dX6_store_88 rfl ?_
    refine lv_bipush (v := (nI 10)) hx hb dX6_store_89 (by decide) ?_
    refine lv_lshl hx hb dX6_store_91 rfl ?_
    refine lv_lor hx hb dX6_store_92 ?_
    refine lv_aload_n hx hb dX6_store_93 rfl (lv_at hl 0 rfl) ?_
    refine r_get hx hb hts inX6 hown hK hS 0 21 rfl rfl (by decide) q3 rfl dX6_store_94 ?_
    refine lv_i2l hx hb dX6_store_97 rfl ?_
    refine lv_bipush (v := (nI 12)) hx hb dX6_store_98 (by decide) ?_
    refine lv_lshl hx hb dX6_store_100 rfl ?_
    refine lv_lor hx hb dX6_store_101 ?_
    refine lv_aload_n hx hb dX6_store_102 rfl (lv_at hl 0 rfl) ?_
    refine r_get hx hb hts inX6 hown hK hS 0 23 rfl rfl (by decide) q0 rfl dX6_store_103 ?_
    refine lv_i2l hx hb dX6_store_106 rfl ?_
    refine lv_bipush (v := (nI 16)) hx hb dX6_store_107 (by decide) ?_
    refine lv_lshl hx hb dX6_store_109 rfl ?_
    refine lv_lor hx hb dX6_store_110 ?_
    refine lv_lstore (lv' := [(5, .long ((((((x17.toInt64) + (lN 1)) ||| (((x19.toInt64) + (lN 1)) <<< (((nI 5) : Int32).toInt64 &&& 63))) ||| ((((I_0 0 24) : Int32).toInt64) <<< (((nI 10) : Int32).toInt64 &&& 63))) ||| ((((I_0 0 21) : Int32).toInt64) <<< (((nI 12) : Int32).toInt64 &&& 63))) ||| ((((I_0 0 23) : Int32).toInt64) <<< (((nI 16) : Int32).toInt64 &&& 63)))), (0, .ref h_0), (1, .ref h_0_sorted), (2, .int v2), (3, .long v3)]) hx hb dX6_store_111 hl (by decide) rfl (fun ls hl => ?_)
    refine lv_iconst (v := (nI 0)) hx hb dX6_store_113 (by decide) ?_
    refine lv_istore (lv' := [(7, .int (nI 0)), (5, .long ((((((x17.toInt64) + (lN 1)) ||| (((x19.toInt64) + (lN 1)) <<< (((nI 5) : Int32).toInt64 &&& 63))) ||| ((((I_0 0 24) : Int32).toInt64) <<< (((nI 10) : Int32).toInt64 &&& 63))) ||| ((((I_0 0 21) : Int32).toInt64) <<< (((nI 12) : Int32).toInt64 &&& 63))) ||| ((((I_0 0 23) : Int32).toInt64) <<< (((nI 16) : Int32).toInt64 &&& 63)))), (0, .ref h_0), (1, .ref h_0_sorted), (2, .int v2), (3, .long v3)]) hx hb dX6_store_114 hl (by decide) rfl (fun ls hl => ?_)
    exact L116 FU L_0u15 v2 ((((((x17.toInt64) + (lN 1)) ||| (((x19.toInt64) + (lN 1)) <<< (((nI 5) : Int32).toInt64 &&& 63))) ||| ((((I_0 0 24) : Int32).toInt64) <<< (((nI 10) : Int32).toInt64 &&& 63))) ||| ((((I_0 0 21) : Int32).toInt64) <<< (((nI 12) : Int32).toInt64 &&& 63))) ||| ((((I_0 0 23) : Int32).toInt64) <<< (((nI 16) : Int32).toInt64 &&& 63))) (nI 0) _ _ _ hS (lv_sub hl [2, 3, 4, 1, 0] rfl) hF
  have S5 : ∀ (K5 : (Nat → Nat → Int64) → Int32 → Int64 → Int32 → Option ((Nat → Nat → Int64))) (_ : ∀ (L_0 : Nat → Nat → Int64) (v2 : Int32) (v3 : Int64) (v5 : Int32) (H : Heap) (locs : List Loc) (ls : Array Slot), HS D A H0 [(h_0, oX6 h_0_of h_0_kept h_0_column h_0_size h_0_hidden h_0_cell h_0_home h_0_waste h_0_stock h_0_past h_0_start h_0_known h_0_sorted h_0_row h_0_best I_0), (h_0_of, eI cI 9 (I_0 1)), (h_0_kept, eI cI 9 (I_0 2)), (h_0_column, eJ cJ 5 (L_0 0)), (h_0_size, eI cI 5 (I_0 3)), (h_0_hidden, eI cI 5 (I_0 4)), (h_0_cell, eI cI 2 (I_0 5)), (h_0_home, eI cI 4 (I_0 6)), (h_0_waste, eI cI 8 (I_0 7)), (h_0_stock, eI cI 8 (I_0 8)), (h_0_past, eJ cJ 1616 (L_0 1)), (h_0_start, eJ cJ 8 (L_0 2)), (h_0_known, eJ cJ 3216 (L_0 3)), (h_0_sorted, eJ cJ 3216 (L_0 4)), (h_0_row, eI cI 16 (I_0 9)), (h_0_best, eJ cJ 8 (L_0 5))] H locs → lv_has ls 10 [(0, .ref h_0), (1, .ref h_0_sorted), (2, .int v2), (3, .long v3), (5, .int v5)] → K5 L_0 v2 v3 v5 = some r_L_0 → W p l e ({ frames := 0, cells := 0, slots := 0, locals := 0 } : Room) s m args below meth c H locs 0 0 Q (F0 m 5 ls [])) (L_0 : Nat → Nat → Int64) (v2 : Int32) (v3 : Int64) (v5 : Int32) (H : Heap) (locs : List Loc) (ls : Array Slot), HS D A H0 [(h_0, oX6 h_0_of h_0_kept h_0_column h_0_size h_0_hidden h_0_cell h_0_home h_0_waste h_0_stock h_0_past h_0_start h_0_known h_0_sorted h_0_row h_0_best I_0), (h_0_of, eI cI 9 (I_0 1)), (h_0_kept, eI cI 9 (I_0 2)), (h_0_column, eJ cJ 5 (L_0 0)), (h_0_size, eI cI 5 (I_0 3)), (h_0_hidden, eI cI 5 (I_0 4)), (h_0_cell, eI cI 2 (I_0 5)), (h_0_home, eI cI 4 (I_0 6)), (h_0_waste, eI cI 8 (I_0 7)), (h_0_stock, eI cI 8 (I_0 8)), (h_0_past, eJ cJ 1616 (L_0 1)), (h_0_start, eJ cJ 8 (L_0 2)), (h_0_known, eJ cJ 3216 (L_0 3)), (h_0_sorted, eJ cJ 3216 (L_0 4)), (h_0_row, eI cI 16 (I_0 9)), (h_0_best, eJ cJ 8 (L_0 5))] H locs → lv_has ls 10 [(0, .ref h_0), (1, .ref h_0_sorted), (2, .int v2), (3, .long v3), (5, .int v5)] → F_X6_store_s5 I_0 4 3216 K5 L_0 v2 v3 v5 = some r_L_0 → W p l e ({ frames := 0, cells := 0, slots := 0, locals := 0 } : Room) s m args below meth c H locs 0 0 Q (F0 m 5 ls []) := by
    intro K5 hK5 L_0 v2 v3 v5 H locs ls hS hl hF
    unfold F_X6_store_s5 at hF
    refine lv_iload hx hb dX6_store_5 (lv_at hl 4 rfl) ?_
    refine lv_iconst (v := (nI 5)) hx hb dX6_store_7 (by decide) ?_
    refine lv_icmp_ge (tgt := 57) hx hb dX6_store_8 (by decide) (fun c_21 => ?_) (fun c_21 => ?_)
    · replace hF := ifp hF c_21
      exact B57 L_0 v2 v3 _ _ _ hS (lv_sub hl [0, 1, 2, 3] rfl) hF
    · replace hF := ifn hF c_21
      refine lv_aload_n hx hb dX6_store_11 rfl (lv_at hl 1 rfl) ?_
      refine lv_iload_n hx hb dX6_store_12 rfl (lv_at hl 2 rfl) ?_
      refine lv_iload hx hb dX6_store_13 (lv_at hl 4 rfl) ?_
      refine lv_iadd hx hb dX6_store_15 ?_
      refine lv_aload_n hx hb dX6_store_16 rfl (lv_at hl 0 rfl) ?_
      refine r_get hx hb hts inX6 hown hK hS 0 15 rfl rfl (by decide) q8 rfl dX6_store_17 ?_
      refine lv_iload hx hb dX6_store_20 (lv_at hl 4 rfl) ?_
      replace hF := rdA_e hF
      obtain ⟨hi23, x22, ex22, hF⟩ := hF
      refine r_lald hx hb hK hS 3 rfl rfl hi23 dX6_store_22 ex22 ?_
      replace hF := wrJ_e hF
      obtain ⟨hi25, L_0u24, eL_0u24, hF⟩ := hF
      refine r_last (w2 := [(h_0, oX6 h_0_of h_0_kept h_0_column h_0_size h_0_hidden h_0_cell h_0_home h_0_waste h_0_stock h_0_past h_0_start h_0_known h_0_sorted h_0_row h_0_best I_0), (h_0_of, eI cI 9 (I_0 1)), (h_0_kept, eI cI 9 (I_0 2)), (h_0_column, eJ cJ 5 (L_0u24 0)), (h_0_size, eI cI 5 (I_0 3)), (h_0_hidden, eI cI 5 (I_0 4)), (h_0_cell, eI cI 2 (I_0 5)), (h_0_home, eI cI 4 (I_0 6)), (h_0_waste, eI cI 8 (I_0 7)), (h_0_stock, eI cI 8 (I_0 8)), (h_0_past, eJ cJ 1616 (L_0u24 1)), (h_0_start, eJ cJ 8 (L_0u24 2)), (h_0_known, eJ cJ 3216 (L_0u24 3)), (h_0_sorted, eJ cJ 3216 (L_0u24 4)), (h_0_row, eI cI 16 (I_0 9)), (h_0_best, eJ cJ 8 (L_0u24 5))]) hx hb hK hS 13 rfl rfl hi25 dX6_store_23 (by rw [eL_0u24]; rfl) (fun H locs hS => ?_)
      refine lv_lload_n hx hb dX6_store_24 rfl (lv_at hl 3 rfl) ?_
      refine lv_aload_n hx hb dX6_store_25 rfl (lv_at hl 0 rfl) ?_
      refine r_get hx hb hts inX6 hown hK hS 0 16 rfl rfl (by decide) q9 rfl dX6_store_26 ?_
      refine lv_iload hx hb dX6_store_29 (lv_at hl 4 rfl) ?_
      replace hF := rdA_e hF
      obtain ⟨hi27, x26, ex26, hF⟩ := hF
      refine r_iald hx hb hK hS 4 rfl rfl hi27 dX6_store_31 ex26 ?_
      refine lv_aload_n hx hb dX6_store_32 rfl (lv_at hl 0 rfl) ?_
      refine r_get hx hb hts inX6 hown hK hS 0 17 rfl rfl (by decide) q10 rfl dX6_store_33 ?_
      refine lv_iload hx hb dX6_store_36 (lv_at hl 4 rfl) ?_
      replace hF := rdA_e hF
      obtain ⟨hi29, x28, ex28, hF⟩ := hF
      refine r_iald hx hb hK hS 5 rfl rfl hi29 dX6_store_38 ex28 ?_
      refine lv_iconst (v := (nI 5)) hx hb dX6_store_39 (by decide) ?_
      refine lv_ishl hx hb dX6_store_40 ?_
      refine lv_ior hx hb dX6_store_41 ?_
      refine lv_i2l hx hb dX6_store_42 rfl ?_
      refine lv_bipush (v := (nI 10)) hx hb dX6_store_43 (by decide) ?_
      refine lv_iload hx hb dX6_store_45 (lv_at hl 4 rfl) ?_
      refine lv_imul hx hb dX6_store_47 ?_
      refine lv_lshl hx hb dX6_store_48 rfl ?_
      refine lv_lor hx hb dX6_store_49 ?_
      refine lv_lstore_n (lv' := [(3, .long (v3 ||| ((((x26 ||| (x28 <<< ((nI 5) &&& 31))) : Int32).toInt64) <<< ((((nI 10) * v5) : Int32).toInt64 &&& 63)))), (0, .ref h_0), (1, .ref h_0_sorted), (2, .int v2), (5, .int v5)]) hx hb dX6_store_50 rfl hl (by decide) rfl (fun ls hl => ?_)
      refine lv_iinc (v := v5 + (nI 1)) (lv' := [(5, .int (v5 + (nI 1))), (3, .long (v3 ||| ((((x26 ||| (x28 <<< ((nI 5) &&& 31))) : Int32).toInt64) <<< ((((nI 10) * v5) : Int32).toInt64 &&& 63)))), (0, .ref h_0), (1, .ref h_0_sorted), (2, .int v2)]) hx hb dX6_store_51 hl (k := 4) rfl rfl (by decide) rfl (fun ls hl => ?_)
      refine lv_goto (tgt := 5) hx hb dX6_store_54 (by decide) ?_
      exact hK5 L_0u24 v2 (v3 ||| ((((x26 ||| (x28 <<< ((nI 5) &&& 31))) : Int32).toInt64) <<< ((((nI 10) * v5) : Int32).toInt64 &&& 63))) (v5 + (nI 1)) _ _ _ hS (lv_sub hl [2, 3, 4, 1, 0] rfl) hF
  have L5 : ∀  (n : Nat) (L_0 : Nat → Nat → Int64) (v2 : Int32) (v3 : Int64) (v5 : Int32) (H : Heap) (locs : List Loc) (ls : Array Slot), HS D A H0 [(h_0, oX6 h_0_of h_0_kept h_0_column h_0_size h_0_hidden h_0_cell h_0_home h_0_waste h_0_stock h_0_past h_0_start h_0_known h_0_sorted h_0_row h_0_best I_0), (h_0_of, eI cI 9 (I_0 1)), (h_0_kept, eI cI 9 (I_0 2)), (h_0_column, eJ cJ 5 (L_0 0)), (h_0_size, eI cI 5 (I_0 3)), (h_0_hidden, eI cI 5 (I_0 4)), (h_0_cell, eI cI 2 (I_0 5)), (h_0_home, eI cI 4 (I_0 6)), (h_0_waste, eI cI 8 (I_0 7)), (h_0_stock, eI cI 8 (I_0 8)), (h_0_past, eJ cJ 1616 (L_0 1)), (h_0_start, eJ cJ 8 (L_0 2)), (h_0_known, eJ cJ 3216 (L_0 3)), (h_0_sorted, eJ cJ 3216 (L_0 4)), (h_0_row, eI cI 16 (I_0 9)), (h_0_best, eJ cJ 8 (L_0 5))] H locs → lv_has ls 10 [(0, .ref h_0), (1, .ref h_0_sorted), (2, .int v2), (3, .long v3), (5, .int v5)] → F_X6_store_L5 I_0 4 3216  n L_0 v2 v3 v5 = some r_L_0 → W p l e ({ frames := 0, cells := 0, slots := 0, locals := 0 } : Room) s m args below meth c H locs 0 0 Q (F0 m 5 ls []) := by
    intro  n
    induction n with
    | zero => intro L_0 v2 v3 v5 H locs ls hS hl hF; exact nomatch (show (none : Option ((Nat → Nat → Int64))) = some _ from hF)
    | succ n ih => intro L_0 v2 v3 v5 H locs ls hS hl hF; exact S5  _ ih L_0 v2 v3 v5 H locs ls hS hl hF
  unfold F_X6_store at hF
  refine lv_lconst (v := (lN 0)) hx hb dX6_store_0 (by decide) ?_
  refine lv_lstore_n (lv' := [(3, .long (lN 0)), (0, .ref h_0), (1, .ref h_0_sorted), (2, .int v2)]) hx hb dX6_store_1 rfl hl (by decide) rfl (fun ls hl => ?_)
  refine lv_iconst (v := (nI 0)) hx hb dX6_store_2 (by decide) ?_
  refine lv_istore (lv' := [(5, .int (nI 0)), (3, .long (lN 0)), (0, .ref h_0), (1, .ref h_0_sorted), (2, .int v2)]) hx hb dX6_store_3 hl (by decide) rfl (fun ls hl => ?_)
  exact L5 FU L_0 v2 (lN 0) (nI 0) _ _ _ hS (lv_sub hl [2, 3, 4, 1, 0] rfl) hF
set_option maxHeartbeats 4000000 in
set_option maxRecDepth 100000 in
theorem c_X6_deal (l : Launch) (D : va_G) (cI cJ : ClassId) (h_0 h_0_of h_0_kept h_0_column h_0_size h_0_hidden h_0_cell h_0_home h_0_waste h_0_stock h_0_past h_0_start h_0_known h_0_sorted h_0_row h_0_best : Nat) (I_0 : Nat → Nat → Int32) (L_0 : Nat → Nat → Int64) (v1 : Int32) (v2 : Int32) (rv : Int32) (r_I_0 : Nat → Nat → Int32) (r_L_0 : Nat → Nat → Int64) (hF : F_X6_deal I_0 L_0 v1 v2 = some (rv, r_I_0, r_L_0)) : CtI l D [(cI, .int), (cJ, .long)] yX6_deal wtX6_deal ({ frames := 2, cells := 0, slots := 0, locals := 51 } : Room) [.ref h_0, .int v1, .int v2] [(h_0, oX6 h_0_of h_0_kept h_0_column h_0_size h_0_hidden h_0_cell h_0_home h_0_waste h_0_stock h_0_past h_0_start h_0_known h_0_sorted h_0_row h_0_best I_0), (h_0_of, eI cI 9 (I_0 1)), (h_0_kept, eI cI 9 (I_0 2)), (h_0_column, eJ cJ 5 (L_0 0)), (h_0_size, eI cI 5 (I_0 3)), (h_0_hidden, eI cI 5 (I_0 4)), (h_0_cell, eI cI 2 (I_0 5)), (h_0_home, eI cI 4 (I_0 6)), (h_0_waste, eI cI 8 (I_0 7)), (h_0_stock, eI cI 8 (I_0 8)), (h_0_past, eJ cJ 1616 (L_0 1)), (h_0_start, eJ cJ 8 (L_0 2)), (h_0_known, eJ cJ 3216 (L_0 3)), (h_0_sorted, eJ cJ 3216 (L_0 4)), (h_0_row, eI cI 16 (I_0 9)), (h_0_best, eJ cJ 8 (L_0 5))] [(h_0, oX6 h_0_of h_0_kept h_0_column h_0_size h_0_hidden h_0_cell h_0_home h_0_waste h_0_stock h_0_past h_0_start h_0_known h_0_sorted h_0_row h_0_best r_I_0), (h_0_of, eI cI 9 (r_I_0 1)), (h_0_kept, eI cI 9 (r_I_0 2)), (h_0_column, eJ cJ 5 (r_L_0 0)), (h_0_size, eI cI 5 (r_I_0 3)), (h_0_hidden, eI cI 5 (r_I_0 4)), (h_0_cell, eI cI 2 (r_I_0 5)), (h_0_home, eI cI 4 (r_I_0 6)), (h_0_waste, eI cI 8 (r_I_0 7)), (h_0_stock, eI cI 8 (r_I_0 8)), (h_0_past, eJ cJ 1616 (r_L_0 1)), (h_0_start, eJ cJ 8 (r_L_0 2)), (h_0_known, eJ cJ 3216 (r_L_0 3)), (h_0_sorted, eJ cJ 3216 (r_L_0 4)), (h_0_row, eI cI 16 (r_I_0 9)), (h_0_best, eJ cJ 8 (r_L_0 5))] rv := by
  refine CtI.of (cc := cX6_deal) (maxL := 3) (by decide) rfl (Nat.le_of_ble_eq_true rfl) ?_
  intro p e s m args below meth c A H0 Q ls X hS hl kret
  have hCF := X.1
  obtain ⟨⟨hx, hb, hml, hown, hts⟩, hK, hA⟩ := X
  have hl : lv_has ls 3 [(0, .ref h_0), (1, .int v1), (2, .int v2)] := hl
  have q0 := hts (.fieldLink RX6 141 "PatienceryModel" "earlier" "I") (List.mem_cons_of_mem _ mw_304)
  have inX6 : ∀ w ∈ u_ws RX6 TX6 32, w ∈ wtX6_deal := fun w h => List.mem_cons_of_mem _ (inlX6 w h)
  have q2 := hts (.fieldLink RX6 148 "PatienceryModel" "done" "I") (List.mem_cons_of_mem _ mw_305)
  have q3 := hts (.fieldLink RX6 151 "PatienceryModel" "undone" "I") (List.mem_cons_of_mem _ mw_306)
  have q4 := hts (.fieldLink RX6 54 "PatienceryModel" "past" "[J") (List.mem_cons_of_mem _ mw_170)
  have q5 := hts (.fieldLink RX6 25 "PatienceryModel" "of" "[I") (List.mem_cons_of_mem _ mw_161)
  have q6 := hts (.constant RX6 140 (1000000)) (List.mem_cons_of_mem _ mw_303)
  have B25 : ∀ (I_0 : Nat → Nat → Int32) (L_0 : Nat → Nat → Int64) (v1 : Int32) (v2 : Int32) (s1 : Int32) (H : Heap) (locs : List Loc) (ls : Array Slot), HS D A H0 [(h_0, oX6 h_0_of h_0_kept h_0_column h_0_size h_0_hidden h_0_cell h_0_home h_0_waste h_0_stock h_0_past h_0_start h_0_known h_0_sorted h_0_row h_0_best I_0), (h_0_of, eI cI 9 (I_0 1)), (h_0_kept, eI cI 9 (I_0 2)), (h_0_column, eJ cJ 5 (L_0 0)), (h_0_size, eI cI 5 (I_0 3)), (h_0_hidden, eI cI 5 (I_0 4)), (h_0_cell, eI cI 2 (I_0 5)), (h_0_home, eI cI 4 (I_0 6)), (h_0_waste, eI cI 8 (I_0 7)), (h_0_stock, eI cI 8 (I_0 8)), (h_0_past, eJ cJ 1616 (L_0 1)), (h_0_start, eJ cJ 8 (L_0 2)), (h_0_known, eJ cJ 3216 (L_0 3)), (h_0_sorted, eJ cJ 3216 (L_0 4)), (h_0_row, eI cI 16 (I_0 9)), (h_0_best, eJ cJ 8 (L_0 5))] H locs → lv_has ls 3 [(0, .ref h_0), (1, .int v1), (2, .int v2)] → F_X6_deal_b25   I_0 L_0 v1 v2 s1 = some (rv, r_I_0, r_L_0) → W p l e ({ frames := 2, cells := 0, slots := 0, locals := 51 } : Room) s m args below meth c H locs 0 0 Q (F0 m 25 ls [.int s1, .ref h_0]) := by
    intro I_0 L_0 v1 v2 s1 H locs ls hS hl hF
    unfold F_X6_deal_b25 at hF
    replace hF := cal2_e hF
    obtain ⟨x1, I_0u2, hc3, hF⟩ := hF
    refine kV_i (As := [.int s1]) (rest := []) (wr := []) (w2 := [(h_0, oX6 h_0_of h_0_kept h_0_column h_0_size h_0_hidden h_0_cell h_0_home h_0_waste h_0_stock h_0_past h_0_start h_0_known h_0_sorted h_0_row h_0_best I_0u2), (h_0_of, eI cI 9 (I_0u2 1)), (h_0_kept, eI cI 9 (I_0u2 2)), (h_0_column, eJ cJ 5 (L_0 0)), (h_0_size, eI cI 5 (I_0u2 3)), (h_0_hidden, eI cI 5 (I_0u2 4)), (h_0_cell, eI cI 2 (I_0u2 5)), (h_0_home, eI cI 4 (I_0u2 6)), (h_0_waste, eI cI 8 (I_0u2 7)), (h_0_stock, eI cI 8 (I_0u2 8)), (h_0_past, eJ cJ 1616 (L_0 1)), (h_0_start, eJ cJ 8 (L_0 2)), (h_0_known, eJ cJ 3216 (L_0 3)), (h_0_sorted, eJ cJ 3216 (L_0 4)), (h_0_row, eI cI 16 (I_0u2 9)), (h_0_best, eJ cJ 8 (L_0 5))]) hCF hK (c_X6_goesWell l D cI cJ h_0 h_0_of h_0_kept h_0_column h_0_size h_0_hidden h_0_cell h_0_home h_0_waste h_0_stock h_0_past h_0_start h_0_known h_0_sorted h_0_row h_0_best L_0 I_0 s1 x1 I_0u2 hc3) (cwV 1 hts (TBL_V mw_237 mw_238 mw_239 mw_5 mw_240) rfl rfl rfl pmX6_goesWell ⟨Nat.le_of_ble_eq_true rfl, Nat.le_of_ble_eq_true rfl⟩) hS hA [0, 1, 2, 3, 4, 5, 6, 7, 8, 9, 10, 11, 12, 13, 14, 15] [] rfl rfl rfl rfl (by decide) rfl rfl rfl hl.1 rfl (Nat.le_of_ble_eq_true rfl) ⟨Nat.zero_le _, Nat.zero_le _⟩ dX6_deal_25 rfl (fun H locs hS => ?_)
    refine lv_if_ne (tgt := 33) hx hb dX6_deal_28 (by decide) (fun c_4 => ?_) (fun c_4 => ?_)
    · replace hF := ifn hF c_4
      refine lv_aload_n hx hb dX6_deal_33 rfl (lv_at hl 0 rfl) ?_
      refine lv_dup hx hb dX6_deal_34 rfl ?_
      refine r_get hx hb hts inX6 hown hK hS 0 14 rfl rfl (by decide) q0 rfl dX6_deal_35 ?_
      refine lv_aload_n hx hb dX6_deal_38 rfl (lv_at hl 0 rfl) ?_
      replace hF := cal1_e hF
      obtain ⟨x5, hc6, hF⟩ := hF
      refine kV_i (As := []) (rest := [.int (I_0u2 0 14), .ref h_0]) (wr := []) (w2 := [(h_0, oX6 h_0_of h_0_kept h_0_column h_0_size h_0_hidden h_0_cell h_0_home h_0_waste h_0_stock h_0_past h_0_start h_0_known h_0_sorted h_0_row h_0_best I_0u2), (h_0_of, eI cI 9 (I_0u2 1)), (h_0_kept, eI cI 9 (I_0u2 2)), (h_0_column, eJ cJ 5 (L_0 0)), (h_0_size, eI cI 5 (I_0u2 3)), (h_0_hidden, eI cI 5 (I_0u2 4)), (h_0_cell, eI cI 2 (I_0u2 5)), (h_0_home, eI cI 4 (I_0u2 6)), (h_0_waste, eI cI 8 (I_0u2 7)), (h_0_stock, eI cI 8 (I_0u2 8)), (h_0_past, eJ cJ 1616 (L_0 1)), (h_0_start, eJ cJ 8 (L_0 2)), (h_0_known, eJ cJ 3216 (L_0 3)), (h_0_sorted, eJ cJ 3216 (L_0 4)), (h_0_row, eI cI 16 (I_0u2 9)), (h_0_best, eJ cJ 8 (L_0 5))]) hCF hK (c_X6_money l D cI cJ h_0 h_0_of h_0_kept h_0_column h_0_size h_0_hidden h_0_cell h_0_home h_0_waste h_0_stock h_0_past h_0_start h_0_known h_0_sorted h_0_row h_0_best I_0u2 L_0 x5 hc6) (cwV 0 hts (TBL_V mw_307 mw_308 mw_309 mw_5 mw_310) rfl rfl rfl pmX6_money ⟨Nat.le_of_ble_eq_true rfl, Nat.le_of_ble_eq_true rfl⟩) hS hA [0, 1, 2, 3, 4, 5, 6, 7, 8, 9, 10, 11, 12, 13, 14, 15] [] rfl rfl rfl rfl (by decide) rfl rfl rfl hl.1 rfl (Nat.le_of_ble_eq_true rfl) ⟨Nat.zero_le _, Nat.zero_le _⟩ dX6_deal_39 rfl (fun H locs hS => ?_)
      refine lv_iadd hx hb dX6_deal_42 ?_
      replace hF := bnd_e hF
      obtain ⟨I_0u7, eI_0u7, hF⟩ := hF
      refine r_put (w2 := [(h_0, oX6 h_0_of h_0_kept h_0_column h_0_size h_0_hidden h_0_cell h_0_home h_0_waste h_0_stock h_0_past h_0_start h_0_known h_0_sorted h_0_row h_0_best I_0u7), (h_0_of, eI cI 9 (I_0u7 1)), (h_0_kept, eI cI 9 (I_0u7 2)), (h_0_column, eJ cJ 5 (L_0 0)), (h_0_size, eI cI 5 (I_0u7 3)), (h_0_hidden, eI cI 5 (I_0u7 4)), (h_0_cell, eI cI 2 (I_0u7 5)), (h_0_home, eI cI 4 (I_0u7 6)), (h_0_waste, eI cI 8 (I_0u7 7)), (h_0_stock, eI cI 8 (I_0u7 8)), (h_0_past, eJ cJ 1616 (L_0 1)), (h_0_start, eJ cJ 8 (L_0 2)), (h_0_known, eJ cJ 3216 (L_0 3)), (h_0_sorted, eJ cJ 3216 (L_0 4)), (h_0_row, eI cI 16 (I_0u7 9)), (h_0_best, eJ cJ 8 (L_0 5))]) hx hb hts inX6 tyX6 tyX6_ok nmX6 hown hK hS 0 14 rfl rfl (by decide) q0 rfl rfl rfl (Nat.le_of_ble_eq_true rfl) dX6_deal_43 (by rw [eI_0u7]; rfl) (fun H locs hS => ?_)
      refine lv_aload_n hx hb dX6_deal_46 rfl (lv_at hl 0 rfl) ?_
      replace hF := cal1_e hF
      obtain ⟨I_0u8, hc9, hF⟩ := hF
      refine kV_v (As := []) (rest := []) (wr := []) (w2 := [(h_0, oX6 h_0_of h_0_kept h_0_column h_0_size h_0_hidden h_0_cell h_0_home h_0_waste h_0_stock h_0_past h_0_start h_0_known h_0_sorted h_0_row h_0_best I_0u8), (h_0_of, eI cI 9 (I_0u8 1)), (h_0_kept, eI cI 9 (I_0u8 2)), (h_0_column, eJ cJ 5 (L_0 0)), (h_0_size, eI cI 5 (I_0u8 3)), (h_0_hidden, eI cI 5 (I_0u8 4)), (h_0_cell, eI cI 2 (I_0u8 5)), (h_0_home, eI cI 4 (I_0u8 6)), (h_0_waste, eI cI 8 (I_0u8 7)), (h_0_stock, eI cI 8 (I_0u8 8)), (h_0_past, eJ cJ 1616 (L_0 1)), (h_0_start, eJ cJ 8 (L_0 2)), (h_0_known, eJ cJ 3216 (L_0 3)), (h_0_sorted, eJ cJ 3216 (L_0 4)), (h_0_row, eI cI 16 (I_0u8 9)), (h_0_best, eJ cJ 8 (L_0 5))]) hCF hK (c_X6_takeRules l D cI cJ h_0 h_0_of h_0_kept h_0_column h_0_size h_0_hidden h_0_cell h_0_home h_0_waste h_0_stock h_0_past h_0_start h_0_known h_0_sorted h_0_row h_0_best L_0 I_0u7 I_0u8 hc9) (cwV 0 hts (TBL_V mw_176 mw_177 mw_178 mw_5 mw_179) rfl rfl rfl pmX6_takeRules ⟨Nat.le_of_ble_eq_true rfl, Nat.le_of_ble_eq_true rfl⟩) hS hA [0, 1, 2, 3, 4, 5, 6, 7, 8, 9, 10, 11, 12, 13, 14, 15] [] rfl rfl rfl rfl (by decide) rfl rfl rfl hl.1 rfl (Nat.le_of_ble_eq_true rfl) ⟨Nat.zero_le _, Nat.zero_le _⟩ dX6_deal_47 rfl (fun H locs hS => ?_)
      refine lv_aload_n hx hb dX6_deal_50 rfl (lv_at hl 0 rfl) ?_
      refine lv_iload_n hx hb dX6_deal_51 rfl (lv_at hl 1 rfl) ?_
      refine lv_iload_n hx hb dX6_deal_52 rfl (lv_at hl 2 rfl) ?_
      replace hF := cal2_e hF
      obtain ⟨I_0u10, L_0u11, hc12, hF⟩ := hF
      refine kV_v (As := [.int v1, .int v2]) (rest := []) (wr := []) (w2 := [(h_0, oX6 h_0_of h_0_kept h_0_column h_0_size h_0_hidden h_0_cell h_0_home h_0_waste h_0_stock h_0_past h_0_start h_0_known h_0_sorted h_0_row h_0_best I_0u10), (h_0_of, eI cI 9 (I_0u10 1)), (h_0_kept, eI cI 9 (I_0u10 2)), (h_0_column, eJ cJ 5 (L_0u11 0)), (h_0_size, eI cI 5 (I_0u10 3)), (h_0_hidden, eI cI 5 (I_0u10 4)), (h_0_cell, eI cI 2 (I_0u10 5)), (h_0_home, eI cI 4 (I_0u10 6)), (h_0_waste, eI cI 8 (I_0u10 7)), (h_0_stock, eI cI 8 (I_0u10 8)), (h_0_past, eJ cJ 1616 (L_0u11 1)), (h_0_start, eJ cJ 8 (L_0u11 2)), (h_0_known, eJ cJ 3216 (L_0u11 3)), (h_0_sorted, eJ cJ 3216 (L_0u11 4)), (h_0_row, eI cI 16 (I_0u10 9)), (h_0_best, eJ cJ 8 (L_0u11 5))]) hCF hK (c_X6_lay l D cI cJ h_0 h_0_of h_0_kept h_0_column h_0_size h_0_hidden h_0_cell h_0_home h_0_waste h_0_stock h_0_past h_0_start h_0_known h_0_sorted h_0_row h_0_best I_0u8 L_0 v1 v2 I_0u10 L_0u11 hc12) (cwV 2 hts (TBL_V mw_184 mw_185 mw_186 mw_5 mw_187) rfl rfl rfl pmX6_lay ⟨Nat.le_of_ble_eq_true rfl, Nat.le_of_ble_eq_true rfl⟩) hS hA [0, 1, 2, 3, 4, 5, 6, 7, 8, 9, 10, 11, 12, 13, 14, 15] [] rfl rfl rfl rfl (by decide) rfl rfl rfl hl.1 rfl (Nat.le_of_ble_eq_true rfl) ⟨Nat.zero_le _, Nat.zero_le _⟩ dX6_deal_53 rfl (fun H locs hS => ?_)
      refine lv_aload_n hx hb dX6_deal_56 rfl (lv_at hl 0 rfl) ?_
      refine lv_iconst (v := (nI 0)) hx hb dX6_deal_57 (by decide) ?_
      replace hF := bnd_e hF
      obtain ⟨I_0u13, eI_0u13, hF⟩ := hF
      refine r_put (w2 := [(h_0, oX6 h_0_of h_0_kept h_0_column h_0_size h_0_hidden h_0_cell h_0_home h_0_waste h_0_stock h_0_past h_0_start h_0_known h_0_sorted h_0_row h_0_best I_0u13), (h_0_of, eI cI 9 (I_0u13 1)), (h_0_kept, eI cI 9 (I_0u13 2)), (h_0_column, eJ cJ 5 (L_0u11 0)), (h_0_size, eI cI 5 (I_0u13 3)), (h_0_hidden, eI cI 5 (I_0u13 4)), (h_0_cell, eI cI 2 (I_0u13 5)), (h_0_home, eI cI 4 (I_0u13 6)), (h_0_waste, eI cI 8 (I_0u13 7)), (h_0_stock, eI cI 8 (I_0u13 8)), (h_0_past, eJ cJ 1616 (L_0u11 1)), (h_0_start, eJ cJ 8 (L_0u11 2)), (h_0_known, eJ cJ 3216 (L_0u11 3)), (h_0_sorted, eJ cJ 3216 (L_0u11 4)), (h_0_row, eI cI 16 (I_0u13 9)), (h_0_best, eJ cJ 8 (L_0u11 5))]) hx hb hts inX6 tyX6 tyX6_ok nmX6 hown hK hS 0 13 rfl rfl (by decide) q2 rfl rfl rfl (Nat.le_of_ble_eq_true rfl) dX6_deal_58 (by rw [eI_0u13]; rfl) (fun H locs hS => ?_)
      refine lv_aload_n hx hb dX6_deal_61 rfl (lv_at hl 0 rfl) ?_
      refine lv_iconst (v := (nI 0)) hx hb dX6_deal_62 (by decide) ?_
      replace hF := bnd_e hF
      obtain ⟨I_0u14, eI_0u14, hF⟩ := hF
      refine r_put (w2 := [(h_0, oX6 h_0_of h_0_kept h_0_column h_0_size h_0_hidden h_0_cell h_0_home h_0_waste h_0_stock h_0_past h_0_start h_0_known h_0_sorted h_0_row h_0_best I_0u14), (h_0_of, eI cI 9 (I_0u14 1)), (h_0_kept, eI cI 9 (I_0u14 2)), (h_0_column, eJ cJ 5 (L_0u11 0)), (h_0_size, eI cI 5 (I_0u14 3)), (h_0_hidden, eI cI 5 (I_0u14 4)), (h_0_cell, eI cI 2 (I_0u14 5)), (h_0_home, eI cI 4 (I_0u14 6)), (h_0_waste, eI cI 8 (I_0u14 7)), (h_0_stock, eI cI 8 (I_0u14 8)), (h_0_past, eJ cJ 1616 (L_0u11 1)), (h_0_start, eJ cJ 8 (L_0u11 2)), (h_0_known, eJ cJ 3216 (L_0u11 3)), (h_0_sorted, eJ cJ 3216 (L_0u11 4)), (h_0_row, eI cI 16 (I_0u14 9)), (h_0_best, eJ cJ 8 (L_0u11 5))]) hx hb hts inX6 tyX6 tyX6_ok nmX6 hown hK hS 0 12 rfl rfl (by decide) q3 rfl rfl rfl (Nat.le_of_ble_eq_true rfl) dX6_deal_63 (by rw [eI_0u14]; rfl) (fun H locs hS => ?_)
      refine lv_aload_n hx hb dX6_deal_66 rfl (lv_at hl 0 rfl) ?_
      refine lv_aload_n hx hb dX6_deal_67 rfl (lv_at hl 0 rfl) ?_
      refine r_get hx hb hts inX6 hown hK hS 0 25 rfl rfl (by decide) q4 rfl dX6_deal_68 ?_
      refine lv_iconst (v := (nI 0)) hx hb dX6_deal_71 (by decide) ?_
      replace hF := cal1_e hF
      obtain ⟨L_0u15, hc16, hF⟩ := hF
      refine kV_v (As := [.ref h_0_past, .int (nI 0)]) (rest := []) (wr := []) (w2 := [(h_0, oX6 h_0_of h_0_kept h_0_column h_0_size h_0_hidden h_0_cell h_0_home h_0_waste h_0_stock h_0_past h_0_start h_0_known h_0_sorted h_0_row h_0_best I_0u14), (h_0_of, eI cI 9 (I_0u14 1)), (h_0_kept, eI cI 9 (I_0u14 2)), (h_0_column, eJ cJ 5 (L_0u15 0)), (h_0_size, eI cI 5 (I_0u14 3)), (h_0_hidden, eI cI 5 (I_0u14 4)), (h_0_cell, eI cI 2 (I_0u14 5)), (h_0_home, eI cI 4 (I_0u14 6)), (h_0_waste, eI cI 8 (I_0u14 7)), (h_0_stock, eI cI 8 (I_0u14 8)), (h_0_past, eJ cJ 1616 (L_0u15 1)), (h_0_start, eJ cJ 8 (L_0u15 2)), (h_0_known, eJ cJ 3216 (L_0u15 3)), (h_0_sorted, eJ cJ 3216 (L_0u15 4)), (h_0_row, eI cI 16 (I_0u14 9)), (h_0_best, eJ cJ 8 (L_0u15 5))]) hCF hK (c_X6_store_past l D cI cJ h_0 h_0_of h_0_kept h_0_column h_0_size h_0_hidden h_0_cell h_0_home h_0_waste h_0_stock h_0_past h_0_start h_0_known h_0_sorted h_0_row h_0_best I_0u14 L_0u11 (nI 0) L_0u15 hc16) (cwV 2 hts (TBL_V mw_209 mw_210 mw_211 mw_5 mw_212) rfl rfl rfl pmX6_store ⟨Nat.le_of_ble_eq_true rfl, Nat.le_of_ble_eq_true rfl⟩) hS hA [0, 1, 2, 3, 4, 5, 6, 7, 8, 9, 10, 11, 12, 13, 14, 15] [] rfl rfl rfl rfl (by decide) rfl rfl rfl hl.1 rfl (Nat.le_of_ble_eq_true rfl) ⟨Nat.zero_le _, Nat.zero_le _⟩ dX6_deal_72 rfl (fun H locs hS => ?_)
      refine lv_aload_n hx hb dX6_deal_75 rfl (lv_at hl 0 rfl) ?_
      refine r_get hx hb hts inX6 hown hK hS 0 10 rfl rfl (by decide) q5 rfl dX6_deal_76 ?_
      refine lv_iconst (v := (nI 0)) hx hb dX6_deal_79 (by decide) ?_
      replace hF := rdA_e hF
      obtain ⟨hi18, x17, ex17, hF⟩ := hF
      refine r_iald hx hb hK hS 1 rfl rfl hi18 dX6_deal_80 ex17 ?_
      refine lv_aload_n hx hb dX6_deal_81 rfl (lv_at hl 0 rfl) ?_
      refine r_get hx hb hts inX6 hown hK hS 0 10 rfl rfl (by decide) q5 rfl dX6_deal_82 ?_
      refine lv_iconst (v := (nI 1)) hx hb dX6_deal_85 (by decide) ?_
      replace hF := rdA_e hF
      obtain ⟨hi20, x19, ex19, hF⟩ := hF
      refine r_iald hx hb hK hS 1 rfl rfl hi20 dX6_deal_86 ex19 ?_
      refine lv_imul hx hb dX6_deal_87 ?_
      refine lv_aload_n hx hb dX6_deal_88 rfl (lv_at hl 0 rfl) ?_
      refine r_get hx hb hts inX6 hown hK hS 0 10 rfl rfl (by decide) q5 rfl dX6_deal_89 ?_
      refine lv_bipush (v := (nI 6)) hx hb dX6_deal_92 (by decide) ?_
      replace hF := rdA_e hF
      obtain ⟨hi22, x21, ex21, hF⟩ := hF
      refine r_iald hx hb hK hS 1 rfl rfl hi22 dX6_deal_94 ex21 ?_
      refine lv_isub hx hb dX6_deal_95 ?_
      have e9_0 := Option.some.inj hF
      obtain ⟨f9_0, e9_1⟩ := Prod.mk.inj e9_0
      obtain ⟨f9_1, e9_2⟩ := Prod.mk.inj e9_1
      subst f9_0
      subst f9_1
      subst e9_2
      exact kret _ _ _ _ hS dX6_deal_96
    · replace hF := ifp hF c_4
      refine lv_iconst (v := (nI 0)) hx hb dX6_deal_31 (by decide) ?_
      have e9_0 := Option.some.inj hF
      obtain ⟨f9_0, e9_1⟩ := Prod.mk.inj e9_0
      obtain ⟨f9_1, e9_2⟩ := Prod.mk.inj e9_1
      subst f9_0
      subst f9_1
      subst e9_2
      exact kret _ _ _ _ hS dX6_deal_32
  unfold F_X6_deal at hF
  refine lv_aload_n hx hb dX6_deal_0 rfl (lv_at hl 0 rfl) ?_
  refine lv_iload_n hx hb dX6_deal_1 rfl (lv_at hl 1 rfl) ?_
  refine lv_iconst (v := (nI 0)) hx hb dX6_deal_2 (by decide) ?_
  refine lv_iconst (v := (nI 1)) hx hb dX6_deal_3 (by decide) ?_
  replace hF := cal1_e hF
  obtain ⟨x23, hc24, hF⟩ := hF
  refine kS_i (As := [.int v1, .int (nI 0), .int (nI 1)]) (rest := [.ref h_0]) (wr := [(h_0, oX6 h_0_of h_0_kept h_0_column h_0_size h_0_hidden h_0_cell h_0_home h_0_waste h_0_stock h_0_past h_0_start h_0_known h_0_sorted h_0_row h_0_best I_0), (h_0_of, eI cI 9 (I_0 1)), (h_0_kept, eI cI 9 (I_0 2)), (h_0_column, eJ cJ 5 (L_0 0)), (h_0_size, eI cI 5 (I_0 3)), (h_0_hidden, eI cI 5 (I_0 4)), (h_0_cell, eI cI 2 (I_0 5)), (h_0_home, eI cI 4 (I_0 6)), (h_0_waste, eI cI 8 (I_0 7)), (h_0_stock, eI cI 8 (I_0 8)), (h_0_past, eJ cJ 1616 (L_0 1)), (h_0_start, eJ cJ 8 (L_0 2)), (h_0_known, eJ cJ 3216 (L_0 3)), (h_0_sorted, eJ cJ 3216 (L_0 4)), (h_0_row, eI cI 16 (I_0 9)), (h_0_best, eJ cJ 8 (L_0 5))]) (w2 := [(h_0, oX6 h_0_of h_0_kept h_0_column h_0_size h_0_hidden h_0_cell h_0_home h_0_waste h_0_stock h_0_past h_0_start h_0_known h_0_sorted h_0_row h_0_best I_0), (h_0_of, eI cI 9 (I_0 1)), (h_0_kept, eI cI 9 (I_0 2)), (h_0_column, eJ cJ 5 (L_0 0)), (h_0_size, eI cI 5 (I_0 3)), (h_0_hidden, eI cI 5 (I_0 4)), (h_0_cell, eI cI 2 (I_0 5)), (h_0_home, eI cI 4 (I_0 6)), (h_0_waste, eI cI 8 (I_0 7)), (h_0_stock, eI cI 8 (I_0 8)), (h_0_past, eJ cJ 1616 (L_0 1)), (h_0_start, eJ cJ 8 (L_0 2)), (h_0_known, eJ cJ 3216 (L_0 3)), (h_0_sorted, eJ cJ 3216 (L_0 4)), (h_0_row, eI cI 16 (I_0 9)), (h_0_best, eJ cJ 8 (L_0 5))]) hCF hK (c_X6_in l D cI cJ v1 (nI 0) (nI 1) x23 hc24) (va_cwS 3 hts (TBL_S mw_234 mw_235 mw_5 mw_236) rfl rfl rfl pmX6_in.2 ⟨Nat.le_of_ble_eq_true rfl, Nat.le_of_ble_eq_true rfl⟩) hS hA [] [0, 1, 2, 3, 4, 5, 6, 7, 8, 9, 10, 11, 12, 13, 14, 15] rfl rfl rfl rfl (by decide) rfl hl.1 rfl (Nat.le_of_ble_eq_true rfl) ⟨Nat.zero_le _, Nat.zero_le _⟩ dX6_deal_4 rfl (fun H locs hS => ?_)
  refine lv_if_eq (tgt := 24) hx hb dX6_deal_7 (by decide) (fun c_25 => ?_) (fun c_25 => ?_)
  · replace hF := ifp hF c_25
    refine lv_iconst (v := (nI 1)) hx hb dX6_deal_24 (by decide) ?_
    exact B25 I_0 L_0 v1 v2 (nI 1) _ _ _ hS (lv_sub hl [0, 1, 2] rfl) hF
  · replace hF := ifn hF c_25
    refine lv_iload_n hx hb dX6_deal_10 rfl (lv_at hl 2 rfl) ?_
    refine lv_iconst (v := (nI 0)) hx hb dX6_deal_11 (by decide) ?_
    refine lv_ldc (v := (nI 1000000)) hx hb hown q6 dX6_deal_12 ?_
    replace hF := cal1_e hF
    obtain ⟨x26, hc27, hF⟩ := hF
    refine kS_i (As := [.int v2, .int (nI 0), .int (nI 1000000)]) (rest := [.ref h_0]) (wr := [(h_0, oX6 h_0_of h_0_kept h_0_column h_0_size h_0_hidden h_0_cell h_0_home h_0_waste h_0_stock h_0_past h_0_start h_0_known h_0_sorted h_0_row h_0_best I_0), (h_0_of, eI cI 9 (I_0 1)), (h_0_kept, eI cI 9 (I_0 2)), (h_0_column, eJ cJ 5 (L_0 0)), (h_0_size, eI cI 5 (I_0 3)), (h_0_hidden, eI cI 5 (I_0 4)), (h_0_cell, eI cI 2 (I_0 5)), (h_0_home, eI cI 4 (I_0 6)), (h_0_waste, eI cI 8 (I_0 7)), (h_0_stock, eI cI 8 (I_0 8)), (h_0_past, eJ cJ 1616 (L_0 1)), (h_0_start, eJ cJ 8 (L_0 2)), (h_0_known, eJ cJ 3216 (L_0 3)), (h_0_sorted, eJ cJ 3216 (L_0 4)), (h_0_row, eI cI 16 (I_0 9)), (h_0_best, eJ cJ 8 (L_0 5))]) (w2 := [(h_0, oX6 h_0_of h_0_kept h_0_column h_0_size h_0_hidden h_0_cell h_0_home h_0_waste h_0_stock h_0_past h_0_start h_0_known h_0_sorted h_0_row h_0_best I_0), (h_0_of, eI cI 9 (I_0 1)), (h_0_kept, eI cI 9 (I_0 2)), (h_0_column, eJ cJ 5 (L_0 0)), (h_0_size, eI cI 5 (I_0 3)), (h_0_hidden, eI cI 5 (I_0 4)), (h_0_cell, eI cI 2 (I_0 5)), (h_0_home, eI cI 4 (I_0 6)), (h_0_waste, eI cI 8 (I_0 7)), (h_0_stock, eI cI 8 (I_0 8)), (h_0_past, eJ cJ 1616 (L_0 1)), (h_0_start, eJ cJ 8 (L_0 2)), (h_0_known, eJ cJ 3216 (L_0 3)), (h_0_sorted, eJ cJ 3216 (L_0 4)), (h_0_row, eI cI 16 (I_0 9)), (h_0_best, eJ cJ 8 (L_0 5))]) hCF hK (c_X6_in l D cI cJ v2 (nI 0) (nI 1000000) x26 hc27) (va_cwS 3 hts (TBL_S mw_234 mw_235 mw_5 mw_236) rfl rfl rfl pmX6_in.2 ⟨Nat.le_of_ble_eq_true rfl, Nat.le_of_ble_eq_true rfl⟩) hS hA [] [0, 1, 2, 3, 4, 5, 6, 7, 8, 9, 10, 11, 12, 13, 14, 15] rfl rfl rfl rfl (by decide) rfl hl.1 rfl (Nat.le_of_ble_eq_true rfl) ⟨Nat.zero_le _, Nat.zero_le _⟩ dX6_deal_14 rfl (fun H locs hS => ?_)
    refine lv_if_eq (tgt := 24) hx hb dX6_deal_17 (by decide) (fun c_28 => ?_) (fun c_28 => ?_)
    · replace hF := ifp hF c_28
      refine lv_iconst (v := (nI 1)) hx hb dX6_deal_24 (by decide) ?_
      exact B25 I_0 L_0 v1 v2 (nI 1) _ _ _ hS (lv_sub hl [0, 1, 2] rfl) hF
    · replace hF := ifn hF c_28
      refine lv_iconst (v := (nI 0)) hx hb dX6_deal_20 (by decide) ?_
      refine lv_goto (tgt := 25) hx hb dX6_deal_21 (by decide) ?_
      exact B25 I_0 L_0 v1 v2 (nI 0) _ _ _ hS (lv_sub hl [0, 1, 2] rfl) hF
set_option maxHeartbeats 4000000 in
set_option maxRecDepth 100000 in
theorem c_X6_load_past (l : Launch) (D : va_G) (cI cJ : ClassId) (h_0 h_0_of h_0_kept h_0_column h_0_size h_0_hidden h_0_cell h_0_home h_0_waste h_0_stock h_0_past h_0_start h_0_known h_0_sorted h_0_row h_0_best : Nat) (I_0 : Nat → Nat → Int32) (L_0 : Nat → Nat → Int64) (v2 : Int32) (r_I_0 : Nat → Nat → Int32) (r_L_0 : Nat → Nat → Int64) (hF : F_X6_load 1 1616 I_0 L_0 v2 = some (r_I_0, r_L_0)) : CtV l D [(cI, .int), (cJ, .long)] yX6_load wtX6_load ({ frames := 0, cells := 0, slots := 0, locals := 0 } : Room) [.ref h_0, .ref h_0_past, .int v2] [(h_0, oX6 h_0_of h_0_kept h_0_column h_0_size h_0_hidden h_0_cell h_0_home h_0_waste h_0_stock h_0_past h_0_start h_0_known h_0_sorted h_0_row h_0_best I_0), (h_0_of, eI cI 9 (I_0 1)), (h_0_kept, eI cI 9 (I_0 2)), (h_0_column, eJ cJ 5 (L_0 0)), (h_0_size, eI cI 5 (I_0 3)), (h_0_hidden, eI cI 5 (I_0 4)), (h_0_cell, eI cI 2 (I_0 5)), (h_0_home, eI cI 4 (I_0 6)), (h_0_waste, eI cI 8 (I_0 7)), (h_0_stock, eI cI 8 (I_0 8)), (h_0_past, eJ cJ 1616 (L_0 1)), (h_0_start, eJ cJ 8 (L_0 2)), (h_0_known, eJ cJ 3216 (L_0 3)), (h_0_sorted, eJ cJ 3216 (L_0 4)), (h_0_row, eI cI 16 (I_0 9)), (h_0_best, eJ cJ 8 (L_0 5))] [(h_0, oX6 h_0_of h_0_kept h_0_column h_0_size h_0_hidden h_0_cell h_0_home h_0_waste h_0_stock h_0_past h_0_start h_0_known h_0_sorted h_0_row h_0_best r_I_0), (h_0_of, eI cI 9 (r_I_0 1)), (h_0_kept, eI cI 9 (r_I_0 2)), (h_0_column, eJ cJ 5 (r_L_0 0)), (h_0_size, eI cI 5 (r_I_0 3)), (h_0_hidden, eI cI 5 (r_I_0 4)), (h_0_cell, eI cI 2 (r_I_0 5)), (h_0_home, eI cI 4 (r_I_0 6)), (h_0_waste, eI cI 8 (r_I_0 7)), (h_0_stock, eI cI 8 (r_I_0 8)), (h_0_past, eJ cJ 1616 (r_L_0 1)), (h_0_start, eJ cJ 8 (r_L_0 2)), (h_0_known, eJ cJ 3216 (r_L_0 3)), (h_0_sorted, eJ cJ 3216 (r_L_0 4)), (h_0_row, eI cI 16 (r_I_0 9)), (h_0_best, eJ cJ 8 (r_L_0 5))] := by
  refine CtV.of (cc := cX6_load) (maxL := 6) (by decide) rfl (Nat.le_of_ble_eq_true rfl) ?_
  intro p e s m args below meth c A H0 Q ls X hS hl kret
  have hCF := X.1
  obtain ⟨⟨hx, hb, hml, hown, hts⟩, hK, hA⟩ := X
  have hl : lv_has ls 6 [(0, .ref h_0), (1, .ref h_0_past), (2, .int v2)] := hl
  have q0 := hts (.fieldLink RX6 48 "PatienceryModel" "waste" "[I") (List.mem_cons_of_mem _ mw_168)
  have inX6 : ∀ w ∈ u_ws RX6 TX6 32, w ∈ wtX6_load := fun w h => List.mem_cons_of_mem _ (inlX6 w h)
  have q2 := hts (.constantLong RX6 157 (15)) (List.mem_cons_of_mem _ mw_338)
  have q3 := hts (.fieldLink RX6 51 "PatienceryModel" "stock" "[I") (List.mem_cons_of_mem _ mw_169)
  have q4 := hts (.fieldLink RX6 45 "PatienceryModel" "home" "[I") (List.mem_cons_of_mem _ mw_167)
  have q5 := hts (.constantLong RX6 171 (7)) (List.mem_cons_of_mem _ mw_339)
  have q6 := hts (.fieldLink RX6 42 "PatienceryModel" "cell" "[I") (List.mem_cons_of_mem _ mw_166)
  have q7 := hts (.constantLong RX6 167 (31)) (List.mem_cons_of_mem _ mw_336)
  have q8 := hts (.constantLong RX6 169 (3)) (List.mem_cons_of_mem _ mw_337)
  have q9 := hts (.fieldLink RX6 123 "PatienceryModel" "turned" "I") (List.mem_cons_of_mem _ mw_196)
  have q10 := hts (.fieldLink RX6 117 "PatienceryModel" "wasted" "I") (List.mem_cons_of_mem _ mw_195)
  have q11 := hts (.fieldLink RX6 120 "PatienceryModel" "left" "I") (List.mem_cons_of_mem _ mw_190)
  have q12 := hts (.fieldLink RX6 32 "PatienceryModel" "column" "[J") (List.mem_cons_of_mem _ mw_163)
  have q13 := hts (.constantLong RX6 165 (1023)) (List.mem_cons_of_mem _ mw_335)
  have q14 := hts (.fieldLink RX6 36 "PatienceryModel" "size" "[I") (List.mem_cons_of_mem _ mw_164)
  have q15 := hts (.fieldLink RX6 39 "PatienceryModel" "hidden" "[I") (List.mem_cons_of_mem _ mw_165)
  have S177 : ∀ (K177 : (Nat → Nat → Int32) → (Nat → Nat → Int64) → Int32 → Int32 → Option ((Nat → Nat → Int32) × (Nat → Nat → Int64))) (_ : ∀ (I_0 : Nat → Nat → Int32) (L_0 : Nat → Nat → Int64) (v2 : Int32) (v5 : Int32) (H : Heap) (locs : List Loc) (ls : Array Slot), HS D A H0 [(h_0, oX6 h_0_of h_0_kept h_0_column h_0_size h_0_hidden h_0_cell h_0_home h_0_waste h_0_stock h_0_past h_0_start h_0_known h_0_sorted h_0_row h_0_best I_0), (h_0_of, eI cI 9 (I_0 1)), (h_0_kept, eI cI 9 (I_0 2)), (h_0_column, eJ cJ 5 (L_0 0)), (h_0_size, eI cI 5 (I_0 3)), (h_0_hidden, eI cI 5 (I_0 4)), (h_0_cell, eI cI 2 (I_0 5)), (h_0_home, eI cI 4 (I_0 6)), (h_0_waste, eI cI 8 (I_0 7)), (h_0_stock, eI cI 8 (I_0 8)), (h_0_past, eJ cJ 1616 (L_0 1)), (h_0_start, eJ cJ 8 (L_0 2)), (h_0_known, eJ cJ 3216 (L_0 3)), (h_0_sorted, eJ cJ 3216 (L_0 4)), (h_0_row, eI cI 16 (I_0 9)), (h_0_best, eJ cJ 8 (L_0 5))] H locs → lv_has ls 6 [(0, .ref h_0), (1, .ref h_0_past), (2, .int v2), (5, .int v5)] → K177 I_0 L_0 v2 v5 = some (r_I_0, r_L_0) → W p l e ({ frames := 0, cells := 0, slots := 0, locals := 0 } : Room) s m args below meth c H locs 0 0 Q (F0 m 177 ls [])) (I_0 : Nat → Nat → Int32) (L_0 : Nat → Nat → Int64) (v2 : Int32) (v5 : Int32) (H : Heap) (locs : List Loc) (ls : Array Slot), HS D A H0 [(h_0, oX6 h_0_of h_0_kept h_0_column h_0_size h_0_hidden h_0_cell h_0_home h_0_waste h_0_stock h_0_past h_0_start h_0_known h_0_sorted h_0_row h_0_best I_0), (h_0_of, eI cI 9 (I_0 1)), (h_0_kept, eI cI 9 (I_0 2)), (h_0_column, eJ cJ 5 (L_0 0)), (h_0_size, eI cI 5 (I_0 3)), (h_0_hidden, eI cI 5 (I_0 4)), (h_0_cell, eI cI 2 (I_0 5)), (h_0_home, eI cI 4 (I_0 6)), (h_0_waste, eI cI 8 (I_0 7)), (h_0_stock, eI cI 8 (I_0 8)), (h_0_past, eJ cJ 1616 (L_0 1)), (h_0_start, eJ cJ 8 (L_0 2)), (h_0_known, eJ cJ 3216 (L_0 3)), (h_0_sorted, eJ cJ 3216 (L_0 4)), (h_0_row, eI cI 16 (I_0 9)), (h_0_best, eJ cJ 8 (L_0 5))] H locs → lv_has ls 6 [(0, .ref h_0), (1, .ref h_0_past), (2, .int v2), (5, .int v5)] → F_X6_load_s177 1 1616 K177 I_0 L_0 v2 v5 = some (r_I_0, r_L_0) → W p l e ({ frames := 0, cells := 0, slots := 0, locals := 0 } : Room) s m args below meth c H locs 0 0 Q (F0 m 177 ls []) := by
    intro K177 hK177 I_0 L_0 v2 v5 H locs ls hS hl hF
    unfold F_X6_load_s177 at hF
    refine lv_iload hx hb dX6_load_177 (lv_at hl 3 rfl) ?_
    refine lv_bipush (v := (nI 8)) hx hb dX6_load_179 (by decide) ?_
    refine lv_icmp_ge (tgt := 239) hx hb dX6_load_181 (by decide) (fun c_1 => ?_) (fun c_1 => ?_)
    · replace hF := ifp hF c_1
      have e9_0 := Option.some.inj hF
      obtain ⟨f9_0, e9_1⟩ := Prod.mk.inj e9_0
      subst f9_0
      subst e9_1
      exact kret _ _ _ _ hS dX6_load_239
    · replace hF := ifn hF c_1
      refine lv_aload_n hx hb dX6_load_184 rfl (lv_at hl 0 rfl) ?_
      refine r_get hx hb hts inX6 hown hK hS 0 20 rfl rfl (by decide) q0 rfl dX6_load_185 ?_
      refine lv_iload hx hb dX6_load_188 (lv_at hl 3 rfl) ?_
      refine lv_aload_n hx hb dX6_load_190 rfl (lv_at hl 1 rfl) ?_
      refine lv_iload_n hx hb dX6_load_191 rfl (lv_at hl 2 rfl) ?_
      refine lv_bipush (v := (nI 7)) hx hb dX6_load_192 (by decide) ?_
      refine lv_iadd hx hb dX6_load_194 ?_
      replace hF := rdA_e hF
      obtain ⟨hi3, x2, ex2, hF⟩ := hF
      refine r_lald hx hb hK hS 10 rfl rfl hi3 dX6_load_195 ex2 ?_
      refine lv_iconst (v := (nI 4)) hx hb dX6_load_196 (by decide) ?_
      refine lv_iload hx hb dX6_load_197 (lv_at hl 3 rfl) ?_
      refine lv_imul hx hb dX6_load_199 ?_
      refine lv_lushr hx hb dX6_load_200 rfl ?_
      refine lv_ldc2 (v := (lN 15)) hx hb hown q2 dX6_load_201 ?_
      refine lv_land hx hb dX6_load_204 ?_
      refine lv_l2i hx hb dX6_load_205 rfl ?_
      replace hF := wrA_e hF
      obtain ⟨hi5, I_0u4, eI_0u4, hF⟩ := hF
      refine r_iast (w2 := [(h_0, oX6 h_0_of h_0_kept h_0_column h_0_size h_0_hidden h_0_cell h_0_home h_0_waste h_0_stock h_0_past h_0_start h_0_known h_0_sorted h_0_row h_0_best I_0u4), (h_0_of, eI cI 9 (I_0u4 1)), (h_0_kept, eI cI 9 (I_0u4 2)), (h_0_column, eJ cJ 5 (L_0 0)), (h_0_size, eI cI 5 (I_0u4 3)), (h_0_hidden, eI cI 5 (I_0u4 4)), (h_0_cell, eI cI 2 (I_0u4 5)), (h_0_home, eI cI 4 (I_0u4 6)), (h_0_waste, eI cI 8 (I_0u4 7)), (h_0_stock, eI cI 8 (I_0u4 8)), (h_0_past, eJ cJ 1616 (L_0 1)), (h_0_start, eJ cJ 8 (L_0 2)), (h_0_known, eJ cJ 3216 (L_0 3)), (h_0_sorted, eJ cJ 3216 (L_0 4)), (h_0_row, eI cI 16 (I_0u4 9)), (h_0_best, eJ cJ 8 (L_0 5))]) hx hb hK hS 8 rfl rfl hi5 dX6_load_206 (by rw [eI_0u4]; rfl) (fun H locs hS => ?_)
      refine lv_aload_n hx hb dX6_load_207 rfl (lv_at hl 0 rfl) ?_
      refine r_get hx hb hts inX6 hown hK hS 0 22 rfl rfl (by decide) q3 rfl dX6_load_208 ?_
      refine lv_iload hx hb dX6_load_211 (lv_at hl 3 rfl) ?_
      refine lv_aload_n hx hb dX6_load_213 rfl (lv_at hl 1 rfl) ?_
      refine lv_iload_n hx hb dX6_load_214 rfl (lv_at hl 2 rfl) ?_
      refine lv_bipush (v := (nI 7)) hx hb dX6_load_215 (by decide) ?_
      refine lv_iadd hx hb dX6_load_217 ?_
      replace hF := rdA_e hF
      obtain ⟨hi7, x6, ex6, hF⟩ := hF
      refine r_lald hx hb hK hS 10 rfl rfl hi7 dX6_load_218 ex6 ?_
      refine lv_bipush (v := (nI 32)) hx hb dX6_load_219 (by decide) ?_
      refine lv_iconst (v := (nI 4)) hx hb dX6_load_221 (by decide) ?_
      refine lv_iload hx hb dX6_load_222 (lv_at hl 3 rfl) ?_
      refine lv_imul hx hb dX6_load_224 ?_
      refine lv_iadd hx hb dX6_load_225 ?_
      refine lv_lushr hx hb dX6_load_226 rfl ?_
      refine lv_ldc2 (v := (lN 15)) hx hb hown q2 dX6_load_227 ?_
      refine lv_land hx hb dX6_load_230 ?_
      refine lv_l2i hx hb dX6_load_231 rfl ?_
      replace hF := wrA_e hF
      obtain ⟨hi9, I_0u8, eI_0u8, hF⟩ := hF
      refine r_iast (w2 := [(h_0, oX6 h_0_of h_0_kept h_0_column h_0_size h_0_hidden h_0_cell h_0_home h_0_waste h_0_stock h_0_past h_0_start h_0_known h_0_sorted h_0_row h_0_best I_0u8), (h_0_of, eI cI 9 (I_0u8 1)), (h_0_kept, eI cI 9 (I_0u8 2)), (h_0_column, eJ cJ 5 (L_0 0)), (h_0_size, eI cI 5 (I_0u8 3)), (h_0_hidden, eI cI 5 (I_0u8 4)), (h_0_cell, eI cI 2 (I_0u8 5)), (h_0_home, eI cI 4 (I_0u8 6)), (h_0_waste, eI cI 8 (I_0u8 7)), (h_0_stock, eI cI 8 (I_0u8 8)), (h_0_past, eJ cJ 1616 (L_0 1)), (h_0_start, eJ cJ 8 (L_0 2)), (h_0_known, eJ cJ 3216 (L_0 3)), (h_0_sorted, eJ cJ 3216 (L_0 4)), (h_0_row, eI cI 16 (I_0u8 9)), (h_0_best, eJ cJ 8 (L_0 5))]) hx hb hK hS 9 rfl rfl hi9 dX6_load_232 (by rw [eI_0u8]; rfl) (fun H locs hS => ?_)
      refine lv_iinc (v := v5 + (nI 1)) (lv' := [(5, .int (v5 + (nI 1))), (0, .ref h_0), (1, .ref h_0_past), (2, .int v2)]) hx hb dX6_load_233 hl (k := 3) rfl rfl (by decide) rfl (fun ls hl => ?_)
      refine lv_goto (tgt := 177) hx hb dX6_load_236 (by decide) ?_
      exact hK177 I_0u8 L_0 v2 (v5 + (nI 1)) _ _ _ hS (lv_sub hl [1, 2, 3, 0] rfl) hF
  have L177 : ∀  (n : Nat) (I_0 : Nat → Nat → Int32) (L_0 : Nat → Nat → Int64) (v2 : Int32) (v5 : Int32) (H : Heap) (locs : List Loc) (ls : Array Slot), HS D A H0 [(h_0, oX6 h_0_of h_0_kept h_0_column h_0_size h_0_hidden h_0_cell h_0_home h_0_waste h_0_stock h_0_past h_0_start h_0_known h_0_sorted h_0_row h_0_best I_0), (h_0_of, eI cI 9 (I_0 1)), (h_0_kept, eI cI 9 (I_0 2)), (h_0_column, eJ cJ 5 (L_0 0)), (h_0_size, eI cI 5 (I_0 3)), (h_0_hidden, eI cI 5 (I_0 4)), (h_0_cell, eI cI 2 (I_0 5)), (h_0_home, eI cI 4 (I_0 6)), (h_0_waste, eI cI 8 (I_0 7)), (h_0_stock, eI cI 8 (I_0 8)), (h_0_past, eJ cJ 1616 (L_0 1)), (h_0_start, eJ cJ 8 (L_0 2)), (h_0_known, eJ cJ 3216 (L_0 3)), (h_0_sorted, eJ cJ 3216 (L_0 4)), (h_0_row, eI cI 16 (I_0 9)), (h_0_best, eJ cJ 8 (L_0 5))] H locs → lv_has ls 6 [(0, .ref h_0), (1, .ref h_0_past), (2, .int v2), (5, .int v5)] → F_X6_load_L177 1 1616  n I_0 L_0 v2 v5 = some (r_I_0, r_L_0) → W p l e ({ frames := 0, cells := 0, slots := 0, locals := 0 } : Room) s m args below meth c H locs 0 0 Q (F0 m 177 ls []) := by
    intro  n
    induction n with
    | zero => intro I_0 L_0 v2 v5 H locs ls hS hl hF; exact nomatch (show (none : Option ((Nat → Nat → Int32) × (Nat → Nat → Int64))) = some _ from hF)
    | succ n ih => intro I_0 L_0 v2 v5 H locs ls hS hl hF; exact S177  _ ih I_0 L_0 v2 v5 H locs ls hS hl hF
  have S141 : ∀ (K141 : (Nat → Nat → Int32) → (Nat → Nat → Int64) → Int32 → Int64 → Int32 → Option ((Nat → Nat → Int32) × (Nat → Nat → Int64))) (_ : ∀ (I_0 : Nat → Nat → Int32) (L_0 : Nat → Nat → Int64) (v2 : Int32) (v3 : Int64) (v5 : Int32) (H : Heap) (locs : List Loc) (ls : Array Slot), HS D A H0 [(h_0, oX6 h_0_of h_0_kept h_0_column h_0_size h_0_hidden h_0_cell h_0_home h_0_waste h_0_stock h_0_past h_0_start h_0_known h_0_sorted h_0_row h_0_best I_0), (h_0_of, eI cI 9 (I_0 1)), (h_0_kept, eI cI 9 (I_0 2)), (h_0_column, eJ cJ 5 (L_0 0)), (h_0_size, eI cI 5 (I_0 3)), (h_0_hidden, eI cI 5 (I_0 4)), (h_0_cell, eI cI 2 (I_0 5)), (h_0_home, eI cI 4 (I_0 6)), (h_0_waste, eI cI 8 (I_0 7)), (h_0_stock, eI cI 8 (I_0 8)), (h_0_past, eJ cJ 1616 (L_0 1)), (h_0_start, eJ cJ 8 (L_0 2)), (h_0_known, eJ cJ 3216 (L_0 3)), (h_0_sorted, eJ cJ 3216 (L_0 4)), (h_0_row, eI cI 16 (I_0 9)), (h_0_best, eJ cJ 8 (L_0 5))] H locs → lv_has ls 6 [(0, .ref h_0), (1, .ref h_0_past), (2, .int v2), (3, .long v3), (5, .int v5)] → K141 I_0 L_0 v2 v3 v5 = some (r_I_0, r_L_0) → W p l e ({ frames := 0, cells := 0, slots := 0, locals := 0 } : Room) s m args below meth c H locs 0 0 Q (F0 m 141 ls [])) (I_0 : Nat → Nat → Int32) (L_0 : Nat → Nat → Int64) (v2 : Int32) (v3 : Int64) (v5 : Int32) (H : Heap) (locs : List Loc) (ls : Array Slot), HS D A H0 [(h_0, oX6 h_0_of h_0_kept h_0_column h_0_size h_0_hidden h_0_cell h_0_home h_0_waste h_0_stock h_0_past h_0_start h_0_known h_0_sorted h_0_row h_0_best I_0), (h_0_of, eI cI 9 (I_0 1)), (h_0_kept, eI cI 9 (I_0 2)), (h_0_column, eJ cJ 5 (L_0 0)), (h_0_size, eI cI 5 (I_0 3)), (h_0_hidden, eI cI 5 (I_0 4)), (h_0_cell, eI cI 2 (I_0 5)), (h_0_home, eI cI 4 (I_0 6)), (h_0_waste, eI cI 8 (I_0 7)), (h_0_stock, eI cI 8 (I_0 8)), (h_0_past, eJ cJ 1616 (L_0 1)), (h_0_start, eJ cJ 8 (L_0 2)), (h_0_known, eJ cJ 3216 (L_0 3)), (h_0_sorted, eJ cJ 3216 (L_0 4)), (h_0_row, eI cI 16 (I_0 9)), (h_0_best, eJ cJ 8 (L_0 5))] H locs → lv_has ls 6 [(0, .ref h_0), (1, .ref h_0_past), (2, .int v2), (3, .long v3), (5, .int v5)] → F_X6_load_s141 1 1616 K141 I_0 L_0 v2 v3 v5 = some (r_I_0, r_L_0) → W p l e ({ frames := 0, cells := 0, slots := 0, locals := 0 } : Room) s m args below meth c H locs 0 0 Q (F0 m 141 ls []) := by
    intro K141 hK141 I_0 L_0 v2 v3 v5 H locs ls hS hl hF
    unfold F_X6_load_s141 at hF
    refine lv_iload hx hb dX6_load_141 (lv_at hl 4 rfl) ?_
    refine lv_iconst (v := (nI 4)) hx hb dX6_load_143 (by decide) ?_
    refine lv_icmp_ge (tgt := 174) hx hb dX6_load_144 (by decide) (fun c_10 => ?_) (fun c_10 => ?_)
    · replace hF := ifp hF c_10
      refine lv_iconst (v := (nI 0)) hx hb dX6_load_174 (by decide) ?_
      refine lv_istore (lv' := [(5, .int (nI 0)), (0, .ref h_0), (1, .ref h_0_past), (2, .int v2), (3, .long v3)]) hx hb dX6_load_175 hl (by decide) rfl (fun ls hl => ?_)
      exact L177 FU I_0 L_0 v2 (nI 0) _ _ _ hS (lv_sub hl [1, 2, 3, 0] rfl) hF
    · replace hF := ifn hF c_10
      refine lv_aload_n hx hb dX6_load_147 rfl (lv_at hl 0 rfl) ?_
      refine r_get hx hb hts inX6 hown hK hS 0 19 rfl rfl (by decide) q4 rfl dX6_load_148 ?_
      refine lv_iload hx hb dX6_load_151 (lv_at hl 4 rfl) ?_
      refine lv_lload_n hx hb dX6_load_153 rfl (lv_at hl 3 rfl) ?_
      refine lv_bipush (v := (nI 20)) hx hb dX6_load_154 (by decide) ?_
      refine lv_iconst (v := (nI 3)) hx hb dX6_load_156 (by decide) ?_
      refine lv_iload hx hb dX6_load_157 (lv_at hl 4 rfl) ?_
      refine lv_imul hx hb dX6_load_159 ?_
      refine lv_iadd hx hb dX6_load_160 ?_
      refine lv_lushr hx hb dX6_load_161 rfl ?_
      refine lv_ldc2 (v := (lN 7)) hx hb hown q5 dX6_load_162 ?_
      refine lv_land hx hb dX6_load_165 ?_
      refine lv_l2i hx hb dX6_load_166 rfl ?_
      replace hF := wrA_e hF
      obtain ⟨hi12, I_0u11, eI_0u11, hF⟩ := hF
      refine r_iast (w2 := [(h_0, oX6 h_0_of h_0_kept h_0_column h_0_size h_0_hidden h_0_cell h_0_home h_0_waste h_0_stock h_0_past h_0_start h_0_known h_0_sorted h_0_row h_0_best I_0u11), (h_0_of, eI cI 9 (I_0u11 1)), (h_0_kept, eI cI 9 (I_0u11 2)), (h_0_column, eJ cJ 5 (L_0 0)), (h_0_size, eI cI 5 (I_0u11 3)), (h_0_hidden, eI cI 5 (I_0u11 4)), (h_0_cell, eI cI 2 (I_0u11 5)), (h_0_home, eI cI 4 (I_0u11 6)), (h_0_waste, eI cI 8 (I_0u11 7)), (h_0_stock, eI cI 8 (I_0u11 8)), (h_0_past, eJ cJ 1616 (L_0 1)), (h_0_start, eJ cJ 8 (L_0 2)), (h_0_known, eJ cJ 3216 (L_0 3)), (h_0_sorted, eJ cJ 3216 (L_0 4)), (h_0_row, eI cI 16 (I_0u11 9)), (h_0_best, eJ cJ 8 (L_0 5))]) hx hb hK hS 7 rfl rfl hi12 dX6_load_167 (by rw [eI_0u11]; rfl) (fun H locs hS => ?_)
      refine lv_iinc (v := v5 + (nI 1)) (lv' := [(5, .int (v5 + (nI 1))), (0, .ref h_0), (1, .ref h_0_past), (2, .int v2), (3, .long v3)]) hx hb dX6_load_168 hl (k := 4) rfl rfl (by decide) rfl (fun ls hl => ?_)
      refine lv_goto (tgt := 141) hx hb dX6_load_171 (by decide) ?_
      exact hK141 I_0u11 L_0 v2 v3 (v5 + (nI 1)) _ _ _ hS (lv_sub hl [1, 2, 3, 4, 0] rfl) hF
  have L141 : ∀  (n : Nat) (I_0 : Nat → Nat → Int32) (L_0 : Nat → Nat → Int64) (v2 : Int32) (v3 : Int64) (v5 : Int32) (H : Heap) (locs : List Loc) (ls : Array Slot), HS D A H0 [(h_0, oX6 h_0_of h_0_kept h_0_column h_0_size h_0_hidden h_0_cell h_0_home h_0_waste h_0_stock h_0_past h_0_start h_0_known h_0_sorted h_0_row h_0_best I_0), (h_0_of, eI cI 9 (I_0 1)), (h_0_kept, eI cI 9 (I_0 2)), (h_0_column, eJ cJ 5 (L_0 0)), (h_0_size, eI cI 5 (I_0 3)), (h_0_hidden, eI cI 5 (I_0 4)), (h_0_cell, eI cI 2 (I_0 5)), (h_0_home, eI cI 4 (I_0 6)), (h_0_waste, eI cI 8 (I_0 7)), (h_0_stock, eI cI 8 (I_0 8)), (h_0_past, eJ cJ 1616 (L_0 1)), (h_0_start, eJ cJ 8 (L_0 2)), (h_0_known, eJ cJ 3216 (L_0 3)), (h_0_sorted, eJ cJ 3216 (L_0 4)), (h_0_row, eI cI 16 (I_0 9)), (h_0_best, eJ cJ 8 (L_0 5))] H locs → lv_has ls 6 [(0, .ref h_0), (1, .ref h_0_past), (2, .int v2), (3, .long v3), (5, .int v5)] → F_X6_load_L141 1 1616  n I_0 L_0 v2 v3 v5 = some (r_I_0, r_L_0) → W p l e ({ frames := 0, cells := 0, slots := 0, locals := 0 } : Room) s m args below meth c H locs 0 0 Q (F0 m 141 ls []) := by
    intro  n
    induction n with
    | zero => intro I_0 L_0 v2 v3 v5 H locs ls hS hl hF; exact nomatch (show (none : Option ((Nat → Nat → Int32) × (Nat → Nat → Int64))) = some _ from hF)
    | succ n ih => intro I_0 L_0 v2 v3 v5 H locs ls hS hl hF; exact S141  _ ih I_0 L_0 v2 v3 v5 H locs ls hS hl hF
  have B62 : ∀ (I_0 : Nat → Nat → Int32) (L_0 : Nat → Nat → Int64) (v2 : Int32) (H : Heap) (locs : List Loc) (ls : Array Slot), HS D A H0 [(h_0, oX6 h_0_of h_0_kept h_0_column h_0_size h_0_hidden h_0_cell h_0_home h_0_waste h_0_stock h_0_past h_0_start h_0_known h_0_sorted h_0_row h_0_best I_0), (h_0_of, eI cI 9 (I_0 1)), (h_0_kept, eI cI 9 (I_0 2)), (h_0_column, eJ cJ 5 (L_0 0)), (h_0_size, eI cI 5 (I_0 3)), (h_0_hidden, eI cI 5 (I_0 4)), (h_0_cell, eI cI 2 (I_0 5)), (h_0_home, eI cI 4 (I_0 6)), (h_0_waste, eI cI 8 (I_0 7)), (h_0_stock, eI cI 8 (I_0 8)), (h_0_past, eJ cJ 1616 (L_0 1)), (h_0_start, eJ cJ 8 (L_0 2)), (h_0_known, eJ cJ 3216 (L_0 3)), (h_0_sorted, eJ cJ 3216 (L_0 4)), (h_0_row, eI cI 16 (I_0 9)), (h_0_best, eJ cJ 8 (L_0 5))] H locs → lv_has ls 6 [(0, .ref h_0), (1, .ref h_0_past), (2, .int v2)] → F_X6_load_b62 1 1616  I_0 L_0 v2 = some (r_I_0, r_L_0) → W p l e ({ frames := 0, cells := 0, slots := 0, locals := 0 } : Room) s m args below meth c H locs 0 0 Q (F0 m 62 ls []) := by
    intro I_0 L_0 v2 H locs ls hS hl hF
    unfold F_X6_load_b62 at hF
    refine lv_aload_n hx hb dX6_load_62 rfl (lv_at hl 1 rfl) ?_
    refine lv_iload_n hx hb dX6_load_63 rfl (lv_at hl 2 rfl) ?_
    refine lv_bipush (v := (nI 6)) hx hb dX6_load_64 (by decide) ?_
    refine lv_iadd hx hb dX6_load_66 ?_
    replace hF := rdA_e hF
    obtain ⟨hi14, x13, ex13, hF⟩ := hF
    refine r_lald hx hb hK hS 10 rfl rfl hi14 dX6_load_67 ex13 ?_
    refine lv_lstore_n (lv' := [(3, .long x13), (0, .ref h_0), (1, .ref h_0_past), (2, .int v2)]) hx hb dX6_load_68 rfl hl (by decide) rfl (fun ls hl => ?_)
    refine lv_aload_n hx hb dX6_load_69 rfl (lv_at hl 1 rfl) ?_
    refine r_get hx hb hts inX6 hown hK hS 0 18 rfl rfl (by decide) q6 rfl dX6_load_70 ?_
    refine lv_iconst (v := (nI 0)) hx hb dX6_load_73 (by decide) ?_
    refine lv_lload_n hx hb dX6_load_74 rfl (lv_at hl 0 rfl) ?_
    refine lv_ldc2 (v := (lN 31)) hx hb hown q7 dX6_load_75 ?_
    refine lv_land hx hb dX6_load_78 ?_
    refine lv_l2i hx hb dX6_load_79 rfl ?_
    refine lv_iconst (v := (nI 1)) hx hb dX6_load_80 (by decide) ?_
    refine lv_isub hx hb dX6_load_81 ?_
    replace hF := wrA_e hF
    obtain ⟨hi16, I_0u15, eI_0u15, hF⟩ := hF
    refine r_iast (w2 := [(h_0, oX6 h_0_of h_0_kept h_0_column h_0_size h_0_hidden h_0_cell h_0_home h_0_waste h_0_stock h_0_past h_0_start h_0_known h_0_sorted h_0_row h_0_best I_0u15), (h_0_of, eI cI 9 (I_0u15 1)), (h_0_kept, eI cI 9 (I_0u15 2)), (h_0_column, eJ cJ 5 (L_0 0)), (h_0_size, eI cI 5 (I_0u15 3)), (h_0_hidden, eI cI 5 (I_0u15 4)), (h_0_cell, eI cI 2 (I_0u15 5)), (h_0_home, eI cI 4 (I_0u15 6)), (h_0_waste, eI cI 8 (I_0u15 7)), (h_0_stock, eI cI 8 (I_0u15 8)), (h_0_past, eJ cJ 1616 (L_0 1)), (h_0_start, eJ cJ 8 (L_0 2)), (h_0_known, eJ cJ 3216 (L_0 3)), (h_0_sorted, eJ cJ 3216 (L_0 4)), (h_0_row, eI cI 16 (I_0u15 9)), (h_0_best, eJ cJ 8 (L_0 5))]) hx hb hK hS 6 rfl rfl hi16 dX6_load_82 (by rw [eI_0u15]; rfl) (fun H locs hS => ?_)
    refine lv_aload_n hx hb dX6_load_83 rfl (lv_at hl 1 rfl) ?_
    refine r_get hx hb hts inX6 hown hK hS 0 18 rfl rfl (by decide) q6 rfl dX6_load_84 ?_
    refine lv_iconst (v := (nI 1)) hx hb dX6_load_87 (by decide) ?_
    refine lv_lload_n hx hb dX6_load_88 rfl (lv_at hl 0 rfl) ?_
    refine lv_iconst (v := (nI 5)) hx hb dX6_load_89 (by decide) ?_
    refine lv_lushr hx hb dX6_load_90 rfl ?_
    refine lv_ldc2 (v := (lN 31)) hx hb hown q7 dX6_load_91 ?_
    refine lv_land hx hb dX6_load_94 ?_
    refine lv_l2i hx hb dX6_load_95 rfl ?_
    refine lv_iconst (v := (nI 1)) hx hb dX6_load_96 (by decide) ?_
    refine lv_isub hx hb dX6_load_97 ?_
    replace hF := wrA_e hF
    obtain ⟨hi18, I_0u17, eI_0u17, hF⟩ := hF
    refine r_iast (w2 := [(h_0, oX6 h_0_of h_0_kept h_0_column h_0_size h_0_hidden h_0_cell h_0_home h_0_waste h_0_stock h_0_past h_0_start h_0_known h_0_sorted h_0_row h_0_best I_0u17), (h_0_of, eI cI 9 (I_0u17 1)), (h_0_kept, eI cI 9 (I_0u17 2)), (h_0_column, eJ cJ 5 (L_0 0)), (h_0_size, eI cI 5 (I_0u17 3)), (h_0_hidden, eI cI 5 (I_0u17 4)), (h_0_cell, eI cI 2 (I_0u17 5)), (h_0_home, eI cI 4 (I_0u17 6)), (h_0_waste, eI cI 8 (I_0u17 7)), (h_0_stock, eI cI 8 (I_0u17 8)), (h_0_past, eJ cJ 1616 (L_0 1)), (h_0_start, eJ cJ 8 (L_0 2)), (h_0_known, eJ cJ 3216 (L_0 3)), (h_0_sorted, eJ cJ 3216 (L_0 4)), (h_0_row, eI cI 16 (I_0u17 9)), (h_0_best, eJ cJ 8 (L_0 5))]) hx hb hK hS 6 rfl rfl hi18 dX6_load_98 (by rw [eI_0u17]; rfl) (fun H locs hS => ?_)
    refine lv_aload_n hx hb dX6_load_99 rfl (lv_at hl 1 rfl) ?_
    refine lv_lload_n hx hb dX6_load_100 rfl (lv_at hl 0 rfl) ?_
    refine lv_bipush (v := (nI 10)) hx hb dX6_load_101 (by decide) ?_
    refine lv_lushr hx hb dX6_load_103 rfl ?_
    refine lv_ldc2 (v := (lN 3)) hx hb hown q8 dX6_load_104 ?_
    refine lv_land hx hb dX6_load_107 ?_
    refine lv_l2i hx hb dX6_load_108 rfl ?_
    replace hF := bnd_e hF
    obtain ⟨I_0u19, eI_0u19, hF⟩ := hF
    refine r_put (w2 := [(h_0, oX6 h_0_of h_0_kept h_0_column h_0_size h_0_hidden h_0_cell h_0_home h_0_waste h_0_stock h_0_past h_0_start h_0_known h_0_sorted h_0_row h_0_best I_0u19), (h_0_of, eI cI 9 (I_0u19 1)), (h_0_kept, eI cI 9 (I_0u19 2)), (h_0_column, eJ cJ 5 (L_0 0)), (h_0_size, eI cI 5 (I_0u19 3)), (h_0_hidden, eI cI 5 (I_0u19 4)), (h_0_cell, eI cI 2 (I_0u19 5)), (h_0_home, eI cI 4 (I_0u19 6)), (h_0_waste, eI cI 8 (I_0u19 7)), (h_0_stock, eI cI 8 (I_0u19 8)), (h_0_past, eJ cJ 1616 (L_0 1)), (h_0_start, eJ cJ 8 (L_0 2)), (h_0_known, eJ cJ 3216 (L_0 3)), (h_0_sorted, eJ cJ 3216 (L_0 4)), (h_0_row, eI cI 16 (I_0u19 9)), (h_0_best, eJ cJ 8 (L_0 5))]) hx hb hts inX6 tyX6 tyX6_ok nmX6 hown hK hS 0 24 rfl rfl (by decide) q9 rfl rfl rfl (Nat.le_of_ble_eq_true rfl) dX6_load_109 (by rw [eI_0u19]; rfl) (fun H locs hS => ?_)
    refine lv_aload_n hx hb dX6_load_112 rfl (lv_at hl 1 rfl) ?_
    refine lv_lload_n hx hb dX6_load_113 rfl (lv_at hl 0 rfl) ?_
    refine lv_bipush (v := (nI 12)) hx hb dX6_load_114 (by decide) ?_
    refine lv_lushr hx hb dX6_load_116 rfl ?_
    refine lv_ldc2 (v := (lN 15)) hx hb hown q2 dX6_load_117 ?_
    refine lv_land hx hb dX6_load_120 ?_
    refine lv_l2i hx hb dX6_load_121 rfl ?_
    replace hF := bnd_e hF
    obtain ⟨I_0u20, eI_0u20, hF⟩ := hF
    refine r_put (w2 := [(h_0, oX6 h_0_of h_0_kept h_0_column h_0_size h_0_hidden h_0_cell h_0_home h_0_waste h_0_stock h_0_past h_0_start h_0_known h_0_sorted h_0_row h_0_best I_0u20), (h_0_of, eI cI 9 (I_0u20 1)), (h_0_kept, eI cI 9 (I_0u20 2)), (h_0_column, eJ cJ 5 (L_0 0)), (h_0_size, eI cI 5 (I_0u20 3)), (h_0_hidden, eI cI 5 (I_0u20 4)), (h_0_cell, eI cI 2 (I_0u20 5)), (h_0_home, eI cI 4 (I_0u20 6)), (h_0_waste, eI cI 8 (I_0u20 7)), (h_0_stock, eI cI 8 (I_0u20 8)), (h_0_past, eJ cJ 1616 (L_0 1)), (h_0_start, eJ cJ 8 (L_0 2)), (h_0_known, eJ cJ 3216 (L_0 3)), (h_0_sorted, eJ cJ 3216 (L_0 4)), (h_0_row, eI cI 16 (I_0u20 9)), (h_0_best, eJ cJ 8 (L_0 5))]) hx hb hts inX6 tyX6 tyX6_ok nmX6 hown hK hS 0 21 rfl rfl (by decide) q10 rfl rfl rfl (Nat.le_of_ble_eq_true rfl) dX6_load_122 (by rw [eI_0u20]; rfl) (fun H locs hS => ?_)
    refine lv_aload_n hx hb dX6_load_125 rfl (lv_at hl 1 rfl) ?_
    refine lv_lload_n hx hb dX6_load_126 rfl (lv_at hl 0 rfl) ?_
    refine lv_bipush (v := (nI 16)) hx hb dX6_load_127 (by decide) ?_
    refine lv_lushr hx hb dX6_load_129 rfl ?_
    refine lv_ldc2 (v := (lN 15)) hx hb hown q2 dX6_load_130 ?_
    refine lv_land hx hb dX6_load_133 ?_
    refine lv_l2i hx hb dX6_load_134 rfl ?_
    replace hF := bnd_e hF
    obtain ⟨I_0u21, eI_0u21, hF⟩ := hF
    refine r_put (w2 := [(h_0, oX6 h_0_of h_0_kept h_0_column h_0_size h_0_hidden h_0_cell h_0_home h_0_waste h_0_stock h_0_past h_0_start h_0_known h_0_sorted h_0_row h_0_best I_0u21), (h_0_of, eI cI 9 (I_0u21 1)), (h_0_kept, eI cI 9 (I_0u21 2)), (h_0_column, eJ cJ 5 (L_0 0)), (h_0_size, eI cI 5 (I_0u21 3)), (h_0_hidden, eI cI 5 (I_0u21 4)), (h_0_cell, eI cI 2 (I_0u21 5)), (h_0_home, eI cI 4 (I_0u21 6)), (h_0_waste, eI cI 8 (I_0u21 7)), (h_0_stock, eI cI 8 (I_0u21 8)), (h_0_past, eJ cJ 1616 (L_0 1)), (h_0_start, eJ cJ 8 (L_0 2)), (h_0_known, eJ cJ 3216 (L_0 3)), (h_0_sorted, eJ cJ 3216 (L_0 4)), (h_0_row, eI cI 16 (I_0u21 9)), (h_0_best, eJ cJ 8 (L_0 5))]) hx hb hts inX6 tyX6 tyX6_ok nmX6 hown hK hS 0 23 rfl rfl (by decide) q11 rfl rfl rfl (Nat.le_of_ble_eq_true rfl) dX6_load_135 (by rw [eI_0u21]; rfl) (fun H locs hS => ?_)
    refine lv_iconst (v := (nI 0)) hx hb dX6_load_138 (by decide) ?_
    refine lv_istore (lv' := [(5, .int (nI 0)), (3, .long x13), (0, .ref h_0), (1, .ref h_0_past), (2, .int v2)]) hx hb dX6_load_139 hl (by decide) rfl (fun ls hl => ?_)
    exact L141 FU I_0u21 L_0 v2 x13 (nI 0) _ _ _ hS (lv_sub hl [2, 3, 4, 1, 0] rfl) hF
  have S2 : ∀ (K2 : (Nat → Nat → Int32) → (Nat → Nat → Int64) → Int32 → Int32 → Option ((Nat → Nat → Int32) × (Nat → Nat → Int64))) (_ : ∀ (I_0 : Nat → Nat → Int32) (L_0 : Nat → Nat → Int64) (v2 : Int32) (v3 : Int32) (H : Heap) (locs : List Loc) (ls : Array Slot), HS D A H0 [(h_0, oX6 h_0_of h_0_kept h_0_column h_0_size h_0_hidden h_0_cell h_0_home h_0_waste h_0_stock h_0_past h_0_start h_0_known h_0_sorted h_0_row h_0_best I_0), (h_0_of, eI cI 9 (I_0 1)), (h_0_kept, eI cI 9 (I_0 2)), (h_0_column, eJ cJ 5 (L_0 0)), (h_0_size, eI cI 5 (I_0 3)), (h_0_hidden, eI cI 5 (I_0 4)), (h_0_cell, eI cI 2 (I_0 5)), (h_0_home, eI cI 4 (I_0 6)), (h_0_waste, eI cI 8 (I_0 7)), (h_0_stock, eI cI 8 (I_0 8)), (h_0_past, eJ cJ 1616 (L_0 1)), (h_0_start, eJ cJ 8 (L_0 2)), (h_0_known, eJ cJ 3216 (L_0 3)), (h_0_sorted, eJ cJ 3216 (L_0 4)), (h_0_row, eI cI 16 (I_0 9)), (h_0_best, eJ cJ 8 (L_0 5))] H locs → lv_has ls 6 [(0, .ref h_0), (1, .ref h_0_past), (2, .int v2), (3, .int v3)] → K2 I_0 L_0 v2 v3 = some (r_I_0, r_L_0) → W p l e ({ frames := 0, cells := 0, slots := 0, locals := 0 } : Room) s m args below meth c H locs 0 0 Q (F0 m 2 ls [])) (I_0 : Nat → Nat → Int32) (L_0 : Nat → Nat → Int64) (v2 : Int32) (v3 : Int32) (H : Heap) (locs : List Loc) (ls : Array Slot), HS D A H0 [(h_0, oX6 h_0_of h_0_kept h_0_column h_0_size h_0_hidden h_0_cell h_0_home h_0_waste h_0_stock h_0_past h_0_start h_0_known h_0_sorted h_0_row h_0_best I_0), (h_0_of, eI cI 9 (I_0 1)), (h_0_kept, eI cI 9 (I_0 2)), (h_0_column, eJ cJ 5 (L_0 0)), (h_0_size, eI cI 5 (I_0 3)), (h_0_hidden, eI cI 5 (I_0 4)), (h_0_cell, eI cI 2 (I_0 5)), (h_0_home, eI cI 4 (I_0 6)), (h_0_waste, eI cI 8 (I_0 7)), (h_0_stock, eI cI 8 (I_0 8)), (h_0_past, eJ cJ 1616 (L_0 1)), (h_0_start, eJ cJ 8 (L_0 2)), (h_0_known, eJ cJ 3216 (L_0 3)), (h_0_sorted, eJ cJ 3216 (L_0 4)), (h_0_row, eI cI 16 (I_0 9)), (h_0_best, eJ cJ 8 (L_0 5))] H locs → lv_has ls 6 [(0, .ref h_0), (1, .ref h_0_past), (2, .int v2), (3, .int v3)] → F_X6_load_s2 1 1616 K2 I_0 L_0 v2 v3 = some (r_I_0, r_L_0) → W p l e ({ frames := 0, cells := 0, slots := 0, locals := 0 } : Room) s m args below meth c H locs 0 0 Q (F0 m 2 ls []) := by
    intro K2 hK2 I_0 L_0 v2 v3 H locs ls hS hl hF
    unfold F_X6_load_s2 at hF
    refine lv_iload_n hx hb dX6_load_2 rfl (lv_at hl 3 rfl) ?_
    refine lv_iconst (v := (nI 5)) hx hb dX6_load_3 (by decide) ?_
    refine lv_icmp_ge (tgt := 62) hx hb dX6_load_4 (by decide) (fun c_22 => ?_) (fun c_22 => ?_)
    · replace hF := ifp hF c_22
      exact B62 I_0 L_0 v2 _ _ _ hS (lv_sub hl [0, 1, 2] rfl) hF
    · replace hF := ifn hF c_22
      refine lv_aload_n hx hb dX6_load_7 rfl (lv_at hl 0 rfl) ?_
      refine r_get hx hb hts inX6 hown hK hS 0 15 rfl rfl (by decide) q12 rfl dX6_load_8 ?_
      refine lv_iload_n hx hb dX6_load_11 rfl (lv_at hl 3 rfl) ?_
      refine lv_aload_n hx hb dX6_load_12 rfl (lv_at hl 1 rfl) ?_
      refine lv_iload_n hx hb dX6_load_13 rfl (lv_at hl 2 rfl) ?_
      refine lv_iload_n hx hb dX6_load_14 rfl (lv_at hl 3 rfl) ?_
      refine lv_iadd hx hb dX6_load_15 ?_
      replace hF := rdA_e hF
      obtain ⟨hi24, x23, ex23, hF⟩ := hF
      refine r_lald hx hb hK hS 10 rfl rfl hi24 dX6_load_16 ex23 ?_
      replace hF := wrJ_e hF
      obtain ⟨hi26, L_0u25, eL_0u25, hF⟩ := hF
      refine r_last (w2 := [(h_0, oX6 h_0_of h_0_kept h_0_column h_0_size h_0_hidden h_0_cell h_0_home h_0_waste h_0_stock h_0_past h_0_start h_0_known h_0_sorted h_0_row h_0_best I_0), (h_0_of, eI cI 9 (I_0 1)), (h_0_kept, eI cI 9 (I_0 2)), (h_0_column, eJ cJ 5 (L_0u25 0)), (h_0_size, eI cI 5 (I_0 3)), (h_0_hidden, eI cI 5 (I_0 4)), (h_0_cell, eI cI 2 (I_0 5)), (h_0_home, eI cI 4 (I_0 6)), (h_0_waste, eI cI 8 (I_0 7)), (h_0_stock, eI cI 8 (I_0 8)), (h_0_past, eJ cJ 1616 (L_0u25 1)), (h_0_start, eJ cJ 8 (L_0u25 2)), (h_0_known, eJ cJ 3216 (L_0u25 3)), (h_0_sorted, eJ cJ 3216 (L_0u25 4)), (h_0_row, eI cI 16 (I_0 9)), (h_0_best, eJ cJ 8 (L_0u25 5))]) hx hb hK hS 3 rfl rfl hi26 dX6_load_17 (by rw [eL_0u25]; rfl) (fun H locs hS => ?_)
      refine lv_aload_n hx hb dX6_load_18 rfl (lv_at hl 1 rfl) ?_
      refine lv_iload_n hx hb dX6_load_19 rfl (lv_at hl 2 rfl) ?_
      refine lv_iconst (v := (nI 5)) hx hb dX6_load_20 (by decide) ?_
      refine lv_iadd hx hb dX6_load_21 ?_
      replace hF := rdA_e hF
      obtain ⟨hi28, x27, ex27, hF⟩ := hF
      refine r_lald hx hb hK hS 10 rfl rfl hi28 dX6_load_22 ex27 ?_
      refine lv_bipush (v := (nI 10)) hx hb dX6_load_23 (by decide) ?_
      refine lv_iload_n hx hb dX6_load_25 rfl (lv_at hl 3 rfl) ?_
      refine lv_imul hx hb dX6_load_26 ?_
      refine lv_lushr hx hb dX6_load_27 rfl ?_
      refine lv_ldc2 (v := (lN 1023)) hx hb hown q13 dX6_load_28 ?_
      refine lv_land hx hb dX6_load_31 ?_
      refine lv_l2i hx hb dX6_load_32 rfl ?_
      refine lv_istore (lv' := [(4, .int (((((x27.toUInt64 >>> ((((nI 10) * v3) : Int32).toInt64.toUInt64 &&& Int64.toUInt64 63)).toInt64) &&& (lN 1023)) : Int64).toInt32)), (0, .ref h_0), (1, .ref h_0_past), (2, .int v2), (3, .int v3)]) hx hb dX6_load_33 hl (by decide) rfl (fun ls hl => ?_)
      refine lv_aload_n hx hb dX6_load_35 rfl (lv_at hl 1 rfl) ?_
      refine r_get hx hb hts inX6 hown hK hS 0 16 rfl rfl (by decide) q14 rfl dX6_load_36 ?_
      refine lv_iload_n hx hb dX6_load_39 rfl (lv_at hl 4 rfl) ?_
      refine lv_iload hx hb dX6_load_40 (lv_at hl 0 rfl) ?_
      refine lv_bipush (v := (nI 31)) hx hb dX6_load_42 (by decide) ?_
      refine lv_iand hx hb dX6_load_44 ?_
      replace hF := wrA_e hF
      obtain ⟨hi30, I_0u29, eI_0u29, hF⟩ := hF
      refine r_iast (w2 := [(h_0, oX6 h_0_of h_0_kept h_0_column h_0_size h_0_hidden h_0_cell h_0_home h_0_waste h_0_stock h_0_past h_0_start h_0_known h_0_sorted h_0_row h_0_best I_0u29), (h_0_of, eI cI 9 (I_0u29 1)), (h_0_kept, eI cI 9 (I_0u29 2)), (h_0_column, eJ cJ 5 (L_0u25 0)), (h_0_size, eI cI 5 (I_0u29 3)), (h_0_hidden, eI cI 5 (I_0u29 4)), (h_0_cell, eI cI 2 (I_0u29 5)), (h_0_home, eI cI 4 (I_0u29 6)), (h_0_waste, eI cI 8 (I_0u29 7)), (h_0_stock, eI cI 8 (I_0u29 8)), (h_0_past, eJ cJ 1616 (L_0u25 1)), (h_0_start, eJ cJ 8 (L_0u25 2)), (h_0_known, eJ cJ 3216 (L_0u25 3)), (h_0_sorted, eJ cJ 3216 (L_0u25 4)), (h_0_row, eI cI 16 (I_0u29 9)), (h_0_best, eJ cJ 8 (L_0u25 5))]) hx hb hK hS 4 rfl rfl hi30 dX6_load_45 (by rw [eI_0u29]; rfl) (fun H locs hS => ?_)
      refine lv_aload_n hx hb dX6_load_46 rfl (lv_at hl 1 rfl) ?_
      refine r_get hx hb hts inX6 hown hK hS 0 17 rfl rfl (by decide) q15 rfl dX6_load_47 ?_
      refine lv_iload_n hx hb dX6_load_50 rfl (lv_at hl 4 rfl) ?_
      refine lv_iload hx hb dX6_load_51 (lv_at hl 0 rfl) ?_
      refine lv_iconst (v := (nI 5)) hx hb dX6_load_53 (by decide) ?_
      refine lv_ishr hx hb dX6_load_54 ?_
      replace hF := wrA_e hF
      obtain ⟨hi32, I_0u31, eI_0u31, hF⟩ := hF
      refine r_iast (w2 := [(h_0, oX6 h_0_of h_0_kept h_0_column h_0_size h_0_hidden h_0_cell h_0_home h_0_waste h_0_stock h_0_past h_0_start h_0_known h_0_sorted h_0_row h_0_best I_0u31), (h_0_of, eI cI 9 (I_0u31 1)), (h_0_kept, eI cI 9 (I_0u31 2)), (h_0_column, eJ cJ 5 (L_0u25 0)), (h_0_size, eI cI 5 (I_0u31 3)), (h_0_hidden, eI cI 5 (I_0u31 4)), (h_0_cell, eI cI 2 (I_0u31 5)), (h_0_home, eI cI 4 (I_0u31 6)), (h_0_waste, eI cI 8 (I_0u31 7)), (h_0_stock, eI cI 8 (I_0u31 8)), (h_0_past, eJ cJ 1616 (L_0u25 1)), (h_0_start, eJ cJ 8 (L_0u25 2)), (h_0_known, eJ cJ 3216 (L_0u25 3)), (h_0_sorted, eJ cJ 3216 (L_0u25 4)), (h_0_row, eI cI 16 (I_0u31 9)), (h_0_best, eJ cJ 8 (L_0u25 5))]) hx hb hK hS 5 rfl rfl hi32 dX6_load_55 (by rw [eI_0u31]; rfl) (fun H locs hS => ?_)
      refine lv_iinc (v := v3 + (nI 1)) (lv' := [(3, .int (v3 + (nI 1))), (4, .int (((((x27.toUInt64 >>> ((((nI 10) * v3) : Int32).toInt64.toUInt64 &&& Int64.toUInt64 63)).toInt64) &&& (lN 1023)) : Int64).toInt32)), (0, .ref h_0), (1, .ref h_0_past), (2, .int v2)]) hx hb dX6_load_56 hl (k := 4) rfl rfl (by decide) rfl (fun ls hl => ?_)
      refine lv_goto (tgt := 2) hx hb dX6_load_59 (by decide) ?_
      exact hK2 I_0u31 L_0u25 v2 (v3 + (nI 1)) _ _ _ hS (lv_sub hl [2, 3, 4, 0] rfl) hF
  have L2 : ∀  (n : Nat) (I_0 : Nat → Nat → Int32) (L_0 : Nat → Nat → Int64) (v2 : Int32) (v3 : Int32) (H : Heap) (locs : List Loc) (ls : Array Slot), HS D A H0 [(h_0, oX6 h_0_of h_0_kept h_0_column h_0_size h_0_hidden h_0_cell h_0_home h_0_waste h_0_stock h_0_past h_0_start h_0_known h_0_sorted h_0_row h_0_best I_0), (h_0_of, eI cI 9 (I_0 1)), (h_0_kept, eI cI 9 (I_0 2)), (h_0_column, eJ cJ 5 (L_0 0)), (h_0_size, eI cI 5 (I_0 3)), (h_0_hidden, eI cI 5 (I_0 4)), (h_0_cell, eI cI 2 (I_0 5)), (h_0_home, eI cI 4 (I_0 6)), (h_0_waste, eI cI 8 (I_0 7)), (h_0_stock, eI cI 8 (I_0 8)), (h_0_past, eJ cJ 1616 (L_0 1)), (h_0_start, eJ cJ 8 (L_0 2)), (h_0_known, eJ cJ 3216 (L_0 3)), (h_0_sorted, eJ cJ 3216 (L_0 4)), (h_0_row, eI cI 16 (I_0 9)), (h_0_best, eJ cJ 8 (L_0 5))] H locs → lv_has ls 6 [(0, .ref h_0), (1, .ref h_0_past), (2, .int v2), (3, .int v3)] → F_X6_load_L2 1 1616  n I_0 L_0 v2 v3 = some (r_I_0, r_L_0) → W p l e ({ frames := 0, cells := 0, slots := 0, locals := 0 } : Room) s m args below meth c H locs 0 0 Q (F0 m 2 ls []) := by
    intro  n
    induction n with
    | zero => intro I_0 L_0 v2 v3 H locs ls hS hl hF; exact nomatch (show (none : Option ((Nat → Nat → Int32) × (Nat → Nat → Int64))) = some _ from hF)
    | succ n ih => intro I_0 L_0 v2 v3 H locs ls hS hl hF; exact S2  _ ih I_0 L_0 v2 v3 H locs ls hS hl hF
  unfold F_X6_load at hF
  refine lv_iconst (v := (nI 0)) hx hb dX6_load_0 (by decide) ?_
  refine lv_istore_n (lv' := [(3, .int (nI 0)), (0, .ref h_0), (1, .ref h_0_past), (2, .int v2)]) hx hb dX6_load_1 rfl hl (by decide) rfl (fun ls hl => ?_)
  exact L2 FU I_0 L_0 v2 (nI 0) _ _ _ hS (lv_sub hl [1, 2, 3, 0] rfl) hF
set_option maxHeartbeats 4000000 in
set_option maxRecDepth 100000 in
theorem c_X6_load_start (l : Launch) (D : va_G) (cI cJ : ClassId) (h_0 h_0_of h_0_kept h_0_column h_0_size h_0_hidden h_0_cell h_0_home h_0_waste h_0_stock h_0_past h_0_start h_0_known h_0_sorted h_0_row h_0_best : Nat) (I_0 : Nat → Nat → Int32) (L_0 : Nat → Nat → Int64) (v2 : Int32) (r_I_0 : Nat → Nat → Int32) (r_L_0 : Nat → Nat → Int64) (hF : F_X6_load 2 8 I_0 L_0 v2 = some (r_I_0, r_L_0)) : CtV l D [(cI, .int), (cJ, .long)] yX6_load wtX6_load ({ frames := 0, cells := 0, slots := 0, locals := 0 } : Room) [.ref h_0, .ref h_0_start, .int v2] [(h_0, oX6 h_0_of h_0_kept h_0_column h_0_size h_0_hidden h_0_cell h_0_home h_0_waste h_0_stock h_0_past h_0_start h_0_known h_0_sorted h_0_row h_0_best I_0), (h_0_of, eI cI 9 (I_0 1)), (h_0_kept, eI cI 9 (I_0 2)), (h_0_column, eJ cJ 5 (L_0 0)), (h_0_size, eI cI 5 (I_0 3)), (h_0_hidden, eI cI 5 (I_0 4)), (h_0_cell, eI cI 2 (I_0 5)), (h_0_home, eI cI 4 (I_0 6)), (h_0_waste, eI cI 8 (I_0 7)), (h_0_stock, eI cI 8 (I_0 8)), (h_0_past, eJ cJ 1616 (L_0 1)), (h_0_start, eJ cJ 8 (L_0 2)), (h_0_known, eJ cJ 3216 (L_0 3)), (h_0_sorted, eJ cJ 3216 (L_0 4)), (h_0_row, eI cI 16 (I_0 9)), (h_0_best, eJ cJ 8 (L_0 5))] [(h_0, oX6 h_0_of h_0_kept h_0_column h_0_size h_0_hidden h_0_cell h_0_home h_0_waste h_0_stock h_0_past h_0_start h_0_known h_0_sorted h_0_row h_0_best r_I_0), (h_0_of, eI cI 9 (r_I_0 1)), (h_0_kept, eI cI 9 (r_I_0 2)), (h_0_column, eJ cJ 5 (r_L_0 0)), (h_0_size, eI cI 5 (r_I_0 3)), (h_0_hidden, eI cI 5 (r_I_0 4)), (h_0_cell, eI cI 2 (r_I_0 5)), (h_0_home, eI cI 4 (r_I_0 6)), (h_0_waste, eI cI 8 (r_I_0 7)), (h_0_stock, eI cI 8 (r_I_0 8)), (h_0_past, eJ cJ 1616 (r_L_0 1)), (h_0_start, eJ cJ 8 (r_L_0 2)), (h_0_known, eJ cJ 3216 (r_L_0 3)), (h_0_sorted, eJ cJ 3216 (r_L_0 4)), (h_0_row, eI cI 16 (r_I_0 9)), (h_0_best, eJ cJ 8 (r_L_0 5))] := by
  refine CtV.of (cc := cX6_load) (maxL := 6) (by decide) rfl (Nat.le_of_ble_eq_true rfl) ?_
  intro p e s m args below meth c A H0 Q ls X hS hl kret
  have hCF := X.1
  obtain ⟨⟨hx, hb, hml, hown, hts⟩, hK, hA⟩ := X
  have hl : lv_has ls 6 [(0, .ref h_0), (1, .ref h_0_start), (2, .int v2)] := hl
  have q0 := hts (.fieldLink RX6 48 "PatienceryModel" "waste" "[I") (List.mem_cons_of_mem _ mw_168)
  have inX6 : ∀ w ∈ u_ws RX6 TX6 32, w ∈ wtX6_load := fun w h => List.mem_cons_of_mem _ (inlX6 w h)
  have q2 := hts (.constantLong RX6 157 (15)) (List.mem_cons_of_mem _ mw_338)
  have q3 := hts (.fieldLink RX6 51 "PatienceryModel" "stock" "[I") (List.mem_cons_of_mem _ mw_169)
  have q4 := hts (.fieldLink RX6 45 "PatienceryModel" "home" "[I") (List.mem_cons_of_mem _ mw_167)
  have q5 := hts (.constantLong RX6 171 (7)) (List.mem_cons_of_mem _ mw_339)
  have q6 := hts (.fieldLink RX6 42 "PatienceryModel" "cell" "[I") (List.mem_cons_of_mem _ mw_166)
  have q7 := hts (.constantLong RX6 167 (31)) (List.mem_cons_of_mem _ mw_336)
  have q8 := hts (.constantLong RX6 169 (3)) (List.mem_cons_of_mem _ mw_337)
  have q9 := hts (.fieldLink RX6 123 "PatienceryModel" "turned" "I") (List.mem_cons_of_mem _ mw_196)
  have q10 := hts (.fieldLink RX6 117 "PatienceryModel" "wasted" "I") (List.mem_cons_of_mem _ mw_195)
  have q11 := hts (.fieldLink RX6 120 "PatienceryModel" "left" "I") (List.mem_cons_of_mem _ mw_190)
  have q12 := hts (.fieldLink RX6 32 "PatienceryModel" "column" "[J") (List.mem_cons_of_mem _ mw_163)
  have q13 := hts (.constantLong RX6 165 (1023)) (List.mem_cons_of_mem _ mw_335)
  have q14 := hts (.fieldLink RX6 36 "PatienceryModel" "size" "[I") (List.mem_cons_of_mem _ mw_164)
  have q15 := hts (.fieldLink RX6 39 "PatienceryModel" "hidden" "[I") (List.mem_cons_of_mem _ mw_165)
  have S177 : ∀ (K177 : (Nat → Nat → Int32) → (Nat → Nat → Int64) → Int32 → Int32 → Option ((Nat → Nat → Int32) × (Nat → Nat → Int64))) (_ : ∀ (I_0 : Nat → Nat → Int32) (L_0 : Nat → Nat → Int64) (v2 : Int32) (v5 : Int32) (H : Heap) (locs : List Loc) (ls : Array Slot), HS D A H0 [(h_0, oX6 h_0_of h_0_kept h_0_column h_0_size h_0_hidden h_0_cell h_0_home h_0_waste h_0_stock h_0_past h_0_start h_0_known h_0_sorted h_0_row h_0_best I_0), (h_0_of, eI cI 9 (I_0 1)), (h_0_kept, eI cI 9 (I_0 2)), (h_0_column, eJ cJ 5 (L_0 0)), (h_0_size, eI cI 5 (I_0 3)), (h_0_hidden, eI cI 5 (I_0 4)), (h_0_cell, eI cI 2 (I_0 5)), (h_0_home, eI cI 4 (I_0 6)), (h_0_waste, eI cI 8 (I_0 7)), (h_0_stock, eI cI 8 (I_0 8)), (h_0_past, eJ cJ 1616 (L_0 1)), (h_0_start, eJ cJ 8 (L_0 2)), (h_0_known, eJ cJ 3216 (L_0 3)), (h_0_sorted, eJ cJ 3216 (L_0 4)), (h_0_row, eI cI 16 (I_0 9)), (h_0_best, eJ cJ 8 (L_0 5))] H locs → lv_has ls 6 [(0, .ref h_0), (1, .ref h_0_start), (2, .int v2), (5, .int v5)] → K177 I_0 L_0 v2 v5 = some (r_I_0, r_L_0) → W p l e ({ frames := 0, cells := 0, slots := 0, locals := 0 } : Room) s m args below meth c H locs 0 0 Q (F0 m 177 ls [])) (I_0 : Nat → Nat → Int32) (L_0 : Nat → Nat → Int64) (v2 : Int32) (v5 : Int32) (H : Heap) (locs : List Loc) (ls : Array Slot), HS D A H0 [(h_0, oX6 h_0_of h_0_kept h_0_column h_0_size h_0_hidden h_0_cell h_0_home h_0_waste h_0_stock h_0_past h_0_start h_0_known h_0_sorted h_0_row h_0_best I_0), (h_0_of, eI cI 9 (I_0 1)), (h_0_kept, eI cI 9 (I_0 2)), (h_0_column, eJ cJ 5 (L_0 0)), (h_0_size, eI cI 5 (I_0 3)), (h_0_hidden, eI cI 5 (I_0 4)), (h_0_cell, eI cI 2 (I_0 5)), (h_0_home, eI cI 4 (I_0 6)), (h_0_waste, eI cI 8 (I_0 7)), (h_0_stock, eI cI 8 (I_0 8)), (h_0_past, eJ cJ 1616 (L_0 1)), (h_0_start, eJ cJ 8 (L_0 2)), (h_0_known, eJ cJ 3216 (L_0 3)), (h_0_sorted, eJ cJ 3216 (L_0 4)), (h_0_row, eI cI 16 (I_0 9)), (h_0_best, eJ cJ 8 (L_0 5))] H locs → lv_has ls 6 [(0, .ref h_0), (1, .ref h_0_start), (2, .int v2), (5, .int v5)] → F_X6_load_s177 2 8 K177 I_0 L_0 v2 v5 = some (r_I_0, r_L_0) → W p l e ({ frames := 0, cells := 0, slots := 0, locals := 0 } : Room) s m args below meth c H locs 0 0 Q (F0 m 177 ls []) := by
    intro K177 hK177 I_0 L_0 v2 v5 H locs ls hS hl hF
    unfold F_X6_load_s177 at hF
    refine lv_iload hx hb dX6_load_177 (lv_at hl 3 rfl) ?_
    refine lv_bipush (v := (nI 8)) hx hb dX6_load_179 (by decide) ?_
    refine lv_icmp_ge (tgt := 239) hx hb dX6_load_181 (by decide) (fun c_1 => ?_) (fun c_1 => ?_)
    · replace hF := ifp hF c_1
      have e9_0 := Option.some.inj hF
      obtain ⟨f9_0, e9_1⟩ := Prod.mk.inj e9_0
      subst f9_0
      subst e9_1
      exact kret _ _ _ _ hS dX6_load_239
    · replace hF := ifn hF c_1
      refine lv_aload_n hx hb dX6_load_184 rfl (lv_at hl 0 rfl) ?_
      refine r_get hx hb hts inX6 hown hK hS 0 20 rfl rfl (by decide) q0 rfl dX6_load_185 ?_
      refine lv_iload hx hb dX6_load_188 (lv_at hl 3 rfl) ?_
      refine lv_aload_n hx hb dX6_load_190 rfl (lv_at hl 1 rfl) ?_
      refine lv_iload_n hx hb dX6_load_191 rfl (lv_at hl 2 rfl) ?_
      refine lv_bipush (v := (nI 7)) hx hb dX6_load_192 (by decide) ?_
      refine lv_iadd hx hb dX6_load_194 ?_
      replace hF := rdA_e hF
      obtain ⟨hi3, x2, ex2, hF⟩ := hF
      refine r_lald hx hb hK hS 11 rfl rfl hi3 dX6_load_195 ex2 ?_
      refine lv_iconst (v := (nI 4)) hx hb dX6_load_196 (by decide) ?_
      refine lv_iload hx hb dX6_load_197 (lv_at hl 3 rfl) ?_
      refine lv_imul hx hb dX6_load_199 ?_
      refine lv_lushr hx hb dX6_load_200 rfl ?_
      refine lv_ldc2 (v := (lN 15)) hx hb hown q2 dX6_load_201 ?_
      refine lv_land hx hb dX6_load_204 ?_
      refine lv_l2i hx hb dX6_load_205 rfl ?_
      replace hF := wrA_e hF
      obtain ⟨hi5, I_0u4, eI_0u4, hF⟩ := hF
      refine r_iast (w2 := [(h_0, oX6 h_0_of h_0_kept h_0_column h_0_size h_0_hidden h_0_cell h_0_home h_0_waste h_0_stock h_0_past h_0_start h_0_known h_0_sorted h_0_row h_0_best I_0u4), (h_0_of, eI cI 9 (I_0u4 1)), (h_0_kept, eI cI 9 (I_0u4 2)), (h_0_column, eJ cJ 5 (L_0 0)), (h_0_size, eI cI 5 (I_0u4 3)), (h_0_hidden, eI cI 5 (I_0u4 4)), (h_0_cell, eI cI 2 (I_0u4 5)), (h_0_home, eI cI 4 (I_0u4 6)), (h_0_waste, eI cI 8 (I_0u4 7)), (h_0_stock, eI cI 8 (I_0u4 8)), (h_0_past, eJ cJ 1616 (L_0 1)), (h_0_start, eJ cJ 8 (L_0 2)), (h_0_known, eJ cJ 3216 (L_0 3)), (h_0_sorted, eJ cJ 3216 (L_0 4)), (h_0_row, eI cI 16 (I_0u4 9)), (h_0_best, eJ cJ 8 (L_0 5))]) hx hb hK hS 8 rfl rfl hi5 dX6_load_206 (by rw [eI_0u4]; rfl) (fun H locs hS => ?_)
      refine lv_aload_n hx hb dX6_load_207 rfl (lv_at hl 0 rfl) ?_
      refine r_get hx hb hts inX6 hown hK hS 0 22 rfl rfl (by decide) q3 rfl dX6_load_208 ?_
      refine lv_iload hx hb dX6_load_211 (lv_at hl 3 rfl) ?_
      refine lv_aload_n hx hb dX6_load_213 rfl (lv_at hl 1 rfl) ?_
      refine lv_iload_n hx hb dX6_load_214 rfl (lv_at hl 2 rfl) ?_
      refine lv_bipush (v := (nI 7)) hx hb dX6_load_215 (by decide) ?_
      refine lv_iadd hx hb dX6_load_217 ?_
      replace hF := rdA_e hF
      obtain ⟨hi7, x6, ex6, hF⟩ := hF
      refine r_lald hx hb hK hS 11 rfl rfl hi7 dX6_load_218 ex6 ?_
      refine lv_bipush (v := (nI 32)) hx hb dX6_load_219 (by decide) ?_
      refine lv_iconst (v := (nI 4)) hx hb dX6_load_221 (by decide) ?_
      refine lv_iload hx hb dX6_load_222 (lv_at hl 3 rfl) ?_
      refine lv_imul hx hb dX6_load_224 ?_
      refine lv_iadd hx hb dX6_load_225 ?_
      refine lv_lushr hx hb dX6_load_226 rfl ?_
      refine lv_ldc2 (v := (lN 15)) hx hb hown q2 dX6_load_227 ?_
      refine lv_land hx hb dX6_load_230 ?_
      refine lv_l2i hx hb dX6_load_231 rfl ?_
      replace hF := wrA_e hF
      obtain ⟨hi9, I_0u8, eI_0u8, hF⟩ := hF
      refine r_iast (w2 := [(h_0, oX6 h_0_of h_0_kept h_0_column h_0_size h_0_hidden h_0_cell h_0_home h_0_waste h_0_stock h_0_past h_0_start h_0_known h_0_sorted h_0_row h_0_best I_0u8), (h_0_of, eI cI 9 (I_0u8 1)), (h_0_kept, eI cI 9 (I_0u8 2)), (h_0_column, eJ cJ 5 (L_0 0)), (h_0_size, eI cI 5 (I_0u8 3)), (h_0_hidden, eI cI 5 (I_0u8 4)), (h_0_cell, eI cI 2 (I_0u8 5)), (h_0_home, eI cI 4 (I_0u8 6)), (h_0_waste, eI cI 8 (I_0u8 7)), (h_0_stock, eI cI 8 (I_0u8 8)), (h_0_past, eJ cJ 1616 (L_0 1)), (h_0_start, eJ cJ 8 (L_0 2)), (h_0_known, eJ cJ 3216 (L_0 3)), (h_0_sorted, eJ cJ 3216 (L_0 4)), (h_0_row, eI cI 16 (I_0u8 9)), (h_0_best, eJ cJ 8 (L_0 5))]) hx hb hK hS 9 rfl rfl hi9 dX6_load_232 (by rw [eI_0u8]; rfl) (fun H locs hS => ?_)
      refine lv_iinc (v := v5 + (nI 1)) (lv' := [(5, .int (v5 + (nI 1))), (0, .ref h_0), (1, .ref h_0_start), (2, .int v2)]) hx hb dX6_load_233 hl (k := 3) rfl rfl (by decide) rfl (fun ls hl => ?_)
      refine lv_goto (tgt := 177) hx hb dX6_load_236 (by decide) ?_
      exact hK177 I_0u8 L_0 v2 (v5 + (nI 1)) _ _ _ hS (lv_sub hl [1, 2, 3, 0] rfl) hF
  have L177 : ∀  (n : Nat) (I_0 : Nat → Nat → Int32) (L_0 : Nat → Nat → Int64) (v2 : Int32) (v5 : Int32) (H : Heap) (locs : List Loc) (ls : Array Slot), HS D A H0 [(h_0, oX6 h_0_of h_0_kept h_0_column h_0_size h_0_hidden h_0_cell h_0_home h_0_waste h_0_stock h_0_past h_0_start h_0_known h_0_sorted h_0_row h_0_best I_0), (h_0_of, eI cI 9 (I_0 1)), (h_0_kept, eI cI 9 (I_0 2)), (h_0_column, eJ cJ 5 (L_0 0)), (h_0_size, eI cI 5 (I_0 3)), (h_0_hidden, eI cI 5 (I_0 4)), (h_0_cell, eI cI 2 (I_0 5)), (h_0_home, eI cI 4 (I_0 6)), (h_0_waste, eI cI 8 (I_0 7)), (h_0_stock, eI cI 8 (I_0 8)), (h_0_past, eJ cJ 1616 (L_0 1)), (h_0_start, eJ cJ 8 (L_0 2)), (h_0_known, eJ cJ 3216 (L_0 3)), (h_0_sorted, eJ cJ 3216 (L_0 4)), (h_0_row, eI cI 16 (I_0 9)), (h_0_best, eJ cJ 8 (L_0 5))] H locs → lv_has ls 6 [(0, .ref h_0), (1, .ref h_0_start), (2, .int v2), (5, .int v5)] → F_X6_load_L177 2 8  n I_0 L_0 v2 v5 = some (r_I_0, r_L_0) → W p l e ({ frames := 0, cells := 0, slots := 0, locals := 0 } : Room) s m args below meth c H locs 0 0 Q (F0 m 177 ls []) := by
    intro  n
    induction n with
    | zero => intro I_0 L_0 v2 v5 H locs ls hS hl hF; exact nomatch (show (none : Option ((Nat → Nat → Int32) × (Nat → Nat → Int64))) = some _ from hF)
    | succ n ih => intro I_0 L_0 v2 v5 H locs ls hS hl hF; exact S177  _ ih I_0 L_0 v2 v5 H locs ls hS hl hF
  have S141 : ∀ (K141 : (Nat → Nat → Int32) → (Nat → Nat → Int64) → Int32 → Int64 → Int32 → Option ((Nat → Nat → Int32) × (Nat → Nat → Int64))) (_ : ∀ (I_0 : Nat → Nat → Int32) (L_0 : Nat → Nat → Int64) (v2 : Int32) (v3 : Int64) (v5 : Int32) (H : Heap) (locs : List Loc) (ls : Array Slot), HS D A H0 [(h_0, oX6 h_0_of h_0_kept h_0_column h_0_size h_0_hidden h_0_cell h_0_home h_0_waste h_0_stock h_0_past h_0_start h_0_known h_0_sorted h_0_row h_0_best I_0), (h_0_of, eI cI 9 (I_0 1)), (h_0_kept, eI cI 9 (I_0 2)), (h_0_column, eJ cJ 5 (L_0 0)), (h_0_size, eI cI 5 (I_0 3)), (h_0_hidden, eI cI 5 (I_0 4)), (h_0_cell, eI cI 2 (I_0 5)), (h_0_home, eI cI 4 (I_0 6)), (h_0_waste, eI cI 8 (I_0 7)), (h_0_stock, eI cI 8 (I_0 8)), (h_0_past, eJ cJ 1616 (L_0 1)), (h_0_start, eJ cJ 8 (L_0 2)), (h_0_known, eJ cJ 3216 (L_0 3)), (h_0_sorted, eJ cJ 3216 (L_0 4)), (h_0_row, eI cI 16 (I_0 9)), (h_0_best, eJ cJ 8 (L_0 5))] H locs → lv_has ls 6 [(0, .ref h_0), (1, .ref h_0_start), (2, .int v2), (3, .long v3), (5, .int v5)] → K141 I_0 L_0 v2 v3 v5 = some (r_I_0, r_L_0) → W p l e ({ frames := 0, cells := 0, slots := 0, locals := 0 } : Room) s m args below meth c H locs 0 0 Q (F0 m 141 ls [])) (I_0 : Nat → Nat → Int32) (L_0 : Nat → Nat → Int64) (v2 : Int32) (v3 : Int64) (v5 : Int32) (H : Heap) (locs : List Loc) (ls : Array Slot), HS D A H0 [(h_0, oX6 h_0_of h_0_kept h_0_column h_0_size h_0_hidden h_0_cell h_0_home h_0_waste h_0_stock h_0_past h_0_start h_0_known h_0_sorted h_0_row h_0_best I_0), (h_0_of, eI cI 9 (I_0 1)), (h_0_kept, eI cI 9 (I_0 2)), (h_0_column, eJ cJ 5 (L_0 0)), (h_0_size, eI cI 5 (I_0 3)), (h_0_hidden, eI cI 5 (I_0 4)), (h_0_cell, eI cI 2 (I_0 5)), (h_0_home, eI cI 4 (I_0 6)), (h_0_waste, eI cI 8 (I_0 7)), (h_0_stock, eI cI 8 (I_0 8)), (h_0_past, eJ cJ 1616 (L_0 1)), (h_0_start, eJ cJ 8 (L_0 2)), (h_0_known, eJ cJ 3216 (L_0 3)), (h_0_sorted, eJ cJ 3216 (L_0 4)), (h_0_row, eI cI 16 (I_0 9)), (h_0_best, eJ cJ 8 (L_0 5))] H locs → lv_has ls 6 [(0, .ref h_0), (1, .ref h_0_start), (2, .int v2), (3, .long v3), (5, .int v5)] → F_X6_load_s141 2 8 K141 I_0 L_0 v2 v3 v5 = some (r_I_0, r_L_0) → W p l e ({ frames := 0, cells := 0, slots := 0, locals := 0 } : Room) s m args below meth c H locs 0 0 Q (F0 m 141 ls []) := by
    intro K141 hK141 I_0 L_0 v2 v3 v5 H locs ls hS hl hF
    unfold F_X6_load_s141 at hF
    refine lv_iload hx hb dX6_load_141 (lv_at hl 4 rfl) ?_
    refine lv_iconst (v := (nI 4)) hx hb dX6_load_143 (by decide) ?_
    refine lv_icmp_ge (tgt := 174) hx hb dX6_load_144 (by decide) (fun c_10 => ?_) (fun c_10 => ?_)
    · replace hF := ifp hF c_10
      refine lv_iconst (v := (nI 0)) hx hb dX6_load_174 (by decide) ?_
      refine lv_istore (lv' := [(5, .int (nI 0)), (0, .ref h_0), (1, .ref h_0_start), (2, .int v2), (3, .long v3)]) hx hb dX6_load_175 hl (by decide) rfl (fun ls hl => ?_)
      exact L177 FU I_0 L_0 v2 (nI 0) _ _ _ hS (lv_sub hl [1, 2, 3, 0] rfl) hF
    · replace hF := ifn hF c_10
      refine lv_aload_n hx hb dX6_load_147 rfl (lv_at hl 0 rfl) ?_
      refine r_get hx hb hts inX6 hown hK hS 0 19 rfl rfl (by decide) q4 rfl dX6_load_148 ?_
      refine lv_iload hx hb dX6_load_151 (lv_at hl 4 rfl) ?_
      refine lv_lload_n hx hb dX6_load_153 rfl (lv_at hl 3 rfl) ?_
      refine lv_bipush (v := (nI 20)) hx hb dX6_load_154 (by decide) ?_
      refine lv_iconst (v := (nI 3)) hx hb dX6_load_156 (by decide) ?_
      refine lv_iload hx hb dX6_load_157 (lv_at hl 4 rfl) ?_
      refine lv_imul hx hb dX6_load_159 ?_
      refine lv_iadd hx hb dX6_load_160 ?_
      refine lv_lushr hx hb dX6_load_161 rfl ?_
      refine lv_ldc2 (v := (lN 7)) hx hb hown q5 dX6_load_162 ?_
      refine lv_land hx hb dX6_load_165 ?_
      refine lv_l2i hx hb dX6_load_166 rfl ?_
      replace hF := wrA_e hF
      obtain ⟨hi12, I_0u11, eI_0u11, hF⟩ := hF
      refine r_iast (w2 := [(h_0, oX6 h_0_of h_0_kept h_0_column h_0_size h_0_hidden h_0_cell h_0_home h_0_waste h_0_stock h_0_past h_0_start h_0_known h_0_sorted h_0_row h_0_best I_0u11), (h_0_of, eI cI 9 (I_0u11 1)), (h_0_kept, eI cI 9 (I_0u11 2)), (h_0_column, eJ cJ 5 (L_0 0)), (h_0_size, eI cI 5 (I_0u11 3)), (h_0_hidden, eI cI 5 (I_0u11 4)), (h_0_cell, eI cI 2 (I_0u11 5)), (h_0_home, eI cI 4 (I_0u11 6)), (h_0_waste, eI cI 8 (I_0u11 7)), (h_0_stock, eI cI 8 (I_0u11 8)), (h_0_past, eJ cJ 1616 (L_0 1)), (h_0_start, eJ cJ 8 (L_0 2)), (h_0_known, eJ cJ 3216 (L_0 3)), (h_0_sorted, eJ cJ 3216 (L_0 4)), (h_0_row, eI cI 16 (I_0u11 9)), (h_0_best, eJ cJ 8 (L_0 5))]) hx hb hK hS 7 rfl rfl hi12 dX6_load_167 (by rw [eI_0u11]; rfl) (fun H locs hS => ?_)
      refine lv_iinc (v := v5 + (nI 1)) (lv' := [(5, .int (v5 + (nI 1))), (0, .ref h_0), (1, .ref h_0_start), (2, .int v2), (3, .long v3)]) hx hb dX6_load_168 hl (k := 4) rfl rfl (by decide) rfl (fun ls hl => ?_)
      refine lv_goto (tgt := 141) hx hb dX6_load_171 (by decide) ?_
      exact hK141 I_0u11 L_0 v2 v3 (v5 + (nI 1)) _ _ _ hS (lv_sub hl [1, 2, 3, 4, 0] rfl) hF
  have L141 : ∀  (n : Nat) (I_0 : Nat → Nat → Int32) (L_0 : Nat → Nat → Int64) (v2 : Int32) (v3 : Int64) (v5 : Int32) (H : Heap) (locs : List Loc) (ls : Array Slot), HS D A H0 [(h_0, oX6 h_0_of h_0_kept h_0_column h_0_size h_0_hidden h_0_cell h_0_home h_0_waste h_0_stock h_0_past h_0_start h_0_known h_0_sorted h_0_row h_0_best I_0), (h_0_of, eI cI 9 (I_0 1)), (h_0_kept, eI cI 9 (I_0 2)), (h_0_column, eJ cJ 5 (L_0 0)), (h_0_size, eI cI 5 (I_0 3)), (h_0_hidden, eI cI 5 (I_0 4)), (h_0_cell, eI cI 2 (I_0 5)), (h_0_home, eI cI 4 (I_0 6)), (h_0_waste, eI cI 8 (I_0 7)), (h_0_stock, eI cI 8 (I_0 8)), (h_0_past, eJ cJ 1616 (L_0 1)), (h_0_start, eJ cJ 8 (L_0 2)), (h_0_known, eJ cJ 3216 (L_0 3)), (h_0_sorted, eJ cJ 3216 (L_0 4)), (h_0_row, eI cI 16 (I_0 9)), (h_0_best, eJ cJ 8 (L_0 5))] H locs → lv_has ls 6 [(0, .ref h_0), (1, .ref h_0_start), (2, .int v2), (3, .long v3), (5, .int v5)] → F_X6_load_L141 2 8  n I_0 L_0 v2 v3 v5 = some (r_I_0, r_L_0) → W p l e ({ frames := 0, cells := 0, slots := 0, locals := 0 } : Room) s m args below meth c H locs 0 0 Q (F0 m 141 ls []) := by
    intro  n
    induction n with
    | zero => intro I_0 L_0 v2 v3 v5 H locs ls hS hl hF; exact nomatch (show (none : Option ((Nat → Nat → Int32) × (Nat → Nat → Int64))) = some _ from hF)
    | succ n ih => intro I_0 L_0 v2 v3 v5 H locs ls hS hl hF; exact S141  _ ih I_0 L_0 v2 v3 v5 H locs ls hS hl hF
  have B62 : ∀ (I_0 : Nat → Nat → Int32) (L_0 : Nat → Nat → Int64) (v2 : Int32) (H : Heap) (locs : List Loc) (ls : Array Slot), HS D A H0 [(h_0, oX6 h_0_of h_0_kept h_0_column h_0_size h_0_hidden h_0_cell h_0_home h_0_waste h_0_stock h_0_past h_0_start h_0_known h_0_sorted h_0_row h_0_best I_0), (h_0_of, eI cI 9 (I_0 1)), (h_0_kept, eI cI 9 (I_0 2)), (h_0_column, eJ cJ 5 (L_0 0)), (h_0_size, eI cI 5 (I_0 3)), (h_0_hidden, eI cI 5 (I_0 4)), (h_0_cell, eI cI 2 (I_0 5)), (h_0_home, eI cI 4 (I_0 6)), (h_0_waste, eI cI 8 (I_0 7)), (h_0_stock, eI cI 8 (I_0 8)), (h_0_past, eJ cJ 1616 (L_0 1)), (h_0_start, eJ cJ 8 (L_0 2)), (h_0_known, eJ cJ 3216 (L_0 3)), (h_0_sorted, eJ cJ 3216 (L_0 4)), (h_0_row, eI cI 16 (I_0 9)), (h_0_best, eJ cJ 8 (L_0 5))] H locs → lv_has ls 6 [(0, .ref h_0), (1, .ref h_0_start), (2, .int v2)] → F_X6_load_b62 2 8  I_0 L_0 v2 = some (r_I_0, r_L_0) → W p l e ({ frames := 0, cells := 0, slots := 0, locals := 0 } : Room) s m args below meth c H locs 0 0 Q (F0 m 62 ls []) := by
    intro I_0 L_0 v2 H locs ls hS hl hF
    unfold F_X6_load_b62 at hF
    refine lv_aload_n hx hb dX6_load_62 rfl (lv_at hl 1 rfl) ?_
    refine lv_iload_n hx hb dX6_load_63 rfl (lv_at hl 2 rfl) ?_
    refine lv_bipush (v := (nI 6)) hx hb dX6_load_64 (by decide) ?_
    refine lv_iadd hx hb dX6_load_66 ?_
    replace hF := rdA_e hF
    obtain ⟨hi14, x13, ex13, hF⟩ := hF
    refine r_lald hx hb hK hS 11 rfl rfl hi14 dX6_load_67 ex13 ?_
    refine lv_lstore_n (lv' := [(3, .long x13), (0, .ref h_0), (1, .ref h_0_start), (2, .int v2)]) hx hb dX6_load_68 rfl hl (by decide) rfl (fun ls hl => ?_)
    refine lv_aload_n hx hb dX6_load_69 rfl (lv_at hl 1 rfl) ?_
    refine r_get hx hb hts inX6 hown hK hS 0 18 rfl rfl (by decide) q6 rfl dX6_load_70 ?_
    refine lv_iconst (v := (nI 0)) hx hb dX6_load_73 (by decide) ?_
    refine lv_lload_n hx hb dX6_load_74 rfl (lv_at hl 0 rfl) ?_
    refine lv_ldc2 (v := (lN 31)) hx hb hown q7 dX6_load_75 ?_
    refine lv_land hx hb dX6_load_78 ?_
    refine lv_l2i hx hb dX6_load_79 rfl ?_
    refine lv_iconst (v := (nI 1)) hx hb dX6_load_80 (by decide) ?_
    refine lv_isub hx hb dX6_load_81 ?_
    replace hF := wrA_e hF
    obtain ⟨hi16, I_0u15, eI_0u15, hF⟩ := hF
    refine r_iast (w2 := [(h_0, oX6 h_0_of h_0_kept h_0_column h_0_size h_0_hidden h_0_cell h_0_home h_0_waste h_0_stock h_0_past h_0_start h_0_known h_0_sorted h_0_row h_0_best I_0u15), (h_0_of, eI cI 9 (I_0u15 1)), (h_0_kept, eI cI 9 (I_0u15 2)), (h_0_column, eJ cJ 5 (L_0 0)), (h_0_size, eI cI 5 (I_0u15 3)), (h_0_hidden, eI cI 5 (I_0u15 4)), (h_0_cell, eI cI 2 (I_0u15 5)), (h_0_home, eI cI 4 (I_0u15 6)), (h_0_waste, eI cI 8 (I_0u15 7)), (h_0_stock, eI cI 8 (I_0u15 8)), (h_0_past, eJ cJ 1616 (L_0 1)), (h_0_start, eJ cJ 8 (L_0 2)), (h_0_known, eJ cJ 3216 (L_0 3)), (h_0_sorted, eJ cJ 3216 (L_0 4)), (h_0_row, eI cI 16 (I_0u15 9)), (h_0_best, eJ cJ 8 (L_0 5))]) hx hb hK hS 6 rfl rfl hi16 dX6_load_82 (by rw [eI_0u15]; rfl) (fun H locs hS => ?_)
    refine lv_aload_n hx hb dX6_load_83 rfl (lv_at hl 1 rfl) ?_
    refine r_get hx hb hts inX6 hown hK hS 0 18 rfl rfl (by decide) q6 rfl dX6_load_84 ?_
    refine lv_iconst (v := (nI 1)) hx hb dX6_load_87 (by decide) ?_
    refine lv_lload_n hx hb dX6_load_88 rfl (lv_at hl 0 rfl) ?_
    refine lv_iconst (v := (nI 5)) hx hb dX6_load_89 (by decide) ?_
    refine lv_lushr hx hb dX6_load_90 rfl ?_
    refine lv_ldc2 (v := (lN 31)) hx hb hown q7 dX6_load_91 ?_
    refine lv_land hx hb dX6_load_94 ?_
    refine lv_l2i hx hb dX6_load_95 rfl ?_
    refine lv_iconst (v := (nI 1)) hx hb dX6_load_96 (by decide) ?_
    refine lv_isub hx hb dX6_load_97 ?_
    replace hF := wrA_e hF
    obtain ⟨hi18, I_0u17, eI_0u17, hF⟩ := hF
    refine r_iast (w2 := [(h_0, oX6 h_0_of h_0_kept h_0_column h_0_size h_0_hidden h_0_cell h_0_home h_0_waste h_0_stock h_0_past h_0_start h_0_known h_0_sorted h_0_row h_0_best I_0u17), (h_0_of, eI cI 9 (I_0u17 1)), (h_0_kept, eI cI 9 (I_0u17 2)), (h_0_column, eJ cJ 5 (L_0 0)), (h_0_size, eI cI 5 (I_0u17 3)), (h_0_hidden, eI cI 5 (I_0u17 4)), (h_0_cell, eI cI 2 (I_0u17 5)), (h_0_home, eI cI 4 (I_0u17 6)), (h_0_waste, eI cI 8 (I_0u17 7)), (h_0_stock, eI cI 8 (I_0u17 8)), (h_0_past, eJ cJ 1616 (L_0 1)), (h_0_start, eJ cJ 8 (L_0 2)), (h_0_known, eJ cJ 3216 (L_0 3)), (h_0_sorted, eJ cJ 3216 (L_0 4)), (h_0_row, eI cI 16 (I_0u17 9)), (h_0_best, eJ cJ 8 (L_0 5))]) hx hb hK hS 6 rfl rfl hi18 dX6_load_98 (by rw [eI_0u17]; rfl) (fun H locs hS => ?_)
    refine lv_aload_n hx hb dX6_load_99 rfl (lv_at hl 1 rfl) ?_
    refine lv_lload_n hx hb dX6_load_100 rfl (lv_at hl 0 rfl) ?_
    refine lv_bipush (v := (nI 10)) hx hb dX6_load_101 (by decide) ?_
    refine lv_lushr hx hb dX6_load_103 rfl ?_
    refine lv_ldc2 (v := (lN 3)) hx hb hown q8 dX6_load_104 ?_
    refine lv_land hx hb dX6_load_107 ?_
    refine lv_l2i hx hb dX6_load_108 rfl ?_
    replace hF := bnd_e hF
    obtain ⟨I_0u19, eI_0u19, hF⟩ := hF
    refine r_put (w2 := [(h_0, oX6 h_0_of h_0_kept h_0_column h_0_size h_0_hidden h_0_cell h_0_home h_0_waste h_0_stock h_0_past h_0_start h_0_known h_0_sorted h_0_row h_0_best I_0u19), (h_0_of, eI cI 9 (I_0u19 1)), (h_0_kept, eI cI 9 (I_0u19 2)), (h_0_column, eJ cJ 5 (L_0 0)), (h_0_size, eI cI 5 (I_0u19 3)), (h_0_hidden, eI cI 5 (I_0u19 4)), (h_0_cell, eI cI 2 (I_0u19 5)), (h_0_home, eI cI 4 (I_0u19 6)), (h_0_waste, eI cI 8 (I_0u19 7)), (h_0_stock, eI cI 8 (I_0u19 8)), (h_0_past, eJ cJ 1616 (L_0 1)), (h_0_start, eJ cJ 8 (L_0 2)), (h_0_known, eJ cJ 3216 (L_0 3)), (h_0_sorted, eJ cJ 3216 (L_0 4)), (h_0_row, eI cI 16 (I_0u19 9)), (h_0_best, eJ cJ 8 (L_0 5))]) hx hb hts inX6 tyX6 tyX6_ok nmX6 hown hK hS 0 24 rfl rfl (by decide) q9 rfl rfl rfl (Nat.le_of_ble_eq_true rfl) dX6_load_109 (by rw [eI_0u19]; rfl) (fun H locs hS => ?_)
    refine lv_aload_n hx hb dX6_load_112 rfl (lv_at hl 1 rfl) ?_
    refine lv_lload_n hx hb dX6_load_113 rfl (lv_at hl 0 rfl) ?_
    refine lv_bipush (v := (nI 12)) hx hb dX6_load_114 (by decide) ?_
    refine lv_lushr hx hb dX6_load_116 rfl ?_
    refine lv_ldc2 (v := (lN 15)) hx hb hown q2 dX6_load_117 ?_
    refine lv_land hx hb dX6_load_120 ?_
    refine lv_l2i hx hb dX6_load_121 rfl ?_
    replace hF := bnd_e hF
    obtain ⟨I_0u20, eI_0u20, hF⟩ := hF
    refine r_put (w2 := [(h_0, oX6 h_0_of h_0_kept h_0_column h_0_size h_0_hidden h_0_cell h_0_home h_0_waste h_0_stock h_0_past h_0_start h_0_known h_0_sorted h_0_row h_0_best I_0u20), (h_0_of, eI cI 9 (I_0u20 1)), (h_0_kept, eI cI 9 (I_0u20 2)), (h_0_column, eJ cJ 5 (L_0 0)), (h_0_size, eI cI 5 (I_0u20 3)), (h_0_hidden, eI cI 5 (I_0u20 4)), (h_0_cell, eI cI 2 (I_0u20 5)), (h_0_home, eI cI 4 (I_0u20 6)), (h_0_waste, eI cI 8 (I_0u20 7)), (h_0_stock, eI cI 8 (I_0u20 8)), (h_0_past, eJ cJ 1616 (L_0 1)), (h_0_start, eJ cJ 8 (L_0 2)), (h_0_known, eJ cJ 3216 (L_0 3)), (h_0_sorted, eJ cJ 3216 (L_0 4)), (h_0_row, eI cI 16 (I_0u20 9)), (h_0_best, eJ cJ 8 (L_0 5))]) hx hb hts inX6 tyX6 tyX6_ok nmX6 hown hK hS 0 21 rfl rfl (by decide) q10 rfl rfl rfl (Nat.le_of_ble_eq_true rfl) dX6_load_122 (by rw [eI_0u20]; rfl) (fun H locs hS => ?_)
    refine lv_aload_n hx hb dX6_load_125 rfl (lv_at hl 1 rfl) ?_
    refine lv_lload_n hx hb dX6_load_126 rfl (lv_at hl 0 rfl) ?_
    refine lv_bipush (v := (nI 16)) hx hb dX6_load_127 (by decide) ?_
    refine lv_lushr hx hb dX6_load_129 rfl ?_
    refine lv_ldc2 (v := (lN 15)) hx hb hown q2 dX6_load_130 ?_
    refine lv_land hx hb dX6_load_133 ?_
    refine lv_l2i hx hb dX6_load_134 rfl ?_
    replace hF := bnd_e hF
    obtain ⟨I_0u21, eI_0u21, hF⟩ := hF
    refine r_put (w2 := [(h_0, oX6 h_0_of h_0_kept h_0_column h_0_size h_0_hidden h_0_cell h_0_home h_0_waste h_0_stock h_0_past h_0_start h_0_known h_0_sorted h_0_row h_0_best I_0u21), (h_0_of, eI cI 9 (I_0u21 1)), (h_0_kept, eI cI 9 (I_0u21 2)), (h_0_column, eJ cJ 5 (L_0 0)), (h_0_size, eI cI 5 (I_0u21 3)), (h_0_hidden, eI cI 5 (I_0u21 4)), (h_0_cell, eI cI 2 (I_0u21 5)), (h_0_home, eI cI 4 (I_0u21 6)), (h_0_waste, eI cI 8 (I_0u21 7)), (h_0_stock, eI cI 8 (I_0u21 8)), (h_0_past, eJ cJ 1616 (L_0 1)), (h_0_start, eJ cJ 8 (L_0 2)), (h_0_known, eJ cJ 3216 (L_0 3)), (h_0_sorted, eJ cJ 3216 (L_0 4)), (h_0_row, eI cI 16 (I_0u21 9)), (h_0_best, eJ cJ 8 (L_0 5))]) hx hb hts inX6 tyX6 tyX6_ok nmX6 hown hK hS 0 23 rfl rfl (by decide) q11 rfl rfl rfl (Nat.le_of_ble_eq_true rfl) dX6_load_135 (by rw [eI_0u21]; rfl) (fun H locs hS => ?_)
    refine lv_iconst (v := (nI 0)) hx hb dX6_load_138 (by decide) ?_
    refine lv_istore (lv' := [(5, .int (nI 0)), (3, .long x13), (0, .ref h_0), (1, .ref h_0_start), (2, .int v2)]) hx hb dX6_load_139 hl (by decide) rfl (fun ls hl => ?_)
    exact L141 FU I_0u21 L_0 v2 x13 (nI 0) _ _ _ hS (lv_sub hl [2, 3, 4, 1, 0] rfl) hF
  have S2 : ∀ (K2 : (Nat → Nat → Int32) → (Nat → Nat → Int64) → Int32 → Int32 → Option ((Nat → Nat → Int32) × (Nat → Nat → Int64))) (_ : ∀ (I_0 : Nat → Nat → Int32) (L_0 : Nat → Nat → Int64) (v2 : Int32) (v3 : Int32) (H : Heap) (locs : List Loc) (ls : Array Slot), HS D A H0 [(h_0, oX6 h_0_of h_0_kept h_0_column h_0_size h_0_hidden h_0_cell h_0_home h_0_waste h_0_stock h_0_past h_0_start h_0_known h_0_sorted h_0_row h_0_best I_0), (h_0_of, eI cI 9 (I_0 1)), (h_0_kept, eI cI 9 (I_0 2)), (h_0_column, eJ cJ 5 (L_0 0)), (h_0_size, eI cI 5 (I_0 3)), (h_0_hidden, eI cI 5 (I_0 4)), (h_0_cell, eI cI 2 (I_0 5)), (h_0_home, eI cI 4 (I_0 6)), (h_0_waste, eI cI 8 (I_0 7)), (h_0_stock, eI cI 8 (I_0 8)), (h_0_past, eJ cJ 1616 (L_0 1)), (h_0_start, eJ cJ 8 (L_0 2)), (h_0_known, eJ cJ 3216 (L_0 3)), (h_0_sorted, eJ cJ 3216 (L_0 4)), (h_0_row, eI cI 16 (I_0 9)), (h_0_best, eJ cJ 8 (L_0 5))] H locs → lv_has ls 6 [(0, .ref h_0), (1, .ref h_0_start), (2, .int v2), (3, .int v3)] → K2 I_0 L_0 v2 v3 = some (r_I_0, r_L_0) → W p l e ({ frames := 0, cells := 0, slots := 0, locals := 0 } : Room) s m args below meth c H locs 0 0 Q (F0 m 2 ls [])) (I_0 : Nat → Nat → Int32) (L_0 : Nat → Nat → Int64) (v2 : Int32) (v3 : Int32) (H : Heap) (locs : List Loc) (ls : Array Slot), HS D A H0 [(h_0, oX6 h_0_of h_0_kept h_0_column h_0_size h_0_hidden h_0_cell h_0_home h_0_waste h_0_stock h_0_past h_0_start h_0_known h_0_sorted h_0_row h_0_best I_0), (h_0_of, eI cI 9 (I_0 1)), (h_0_kept, eI cI 9 (I_0 2)), (h_0_column, eJ cJ 5 (L_0 0)), (h_0_size, eI cI 5 (I_0 3)), (h_0_hidden, eI cI 5 (I_0 4)), (h_0_cell, eI cI 2 (I_0 5)), (h_0_home, eI cI 4 (I_0 6)), (h_0_waste, eI cI 8 (I_0 7)), (h_0_stock, eI cI 8 (I_0 8)), (h_0_past, eJ cJ 1616 (L_0 1)), (h_0_start, eJ cJ 8 (L_0 2)), (h_0_known, eJ cJ 3216 (L_0 3)), (h_0_sorted, eJ cJ 3216 (L_0 4)), (h_0_row, eI cI 16 (I_0 9)), (h_0_best, eJ cJ 8 (L_0 5))] H locs → lv_has ls 6 [(0, .ref h_0), (1, .ref h_0_start), (2, .int v2), (3, .int v3)] → F_X6_load_s2 2 8 K2 I_0 L_0 v2 v3 = some (r_I_0, r_L_0) → W p l e ({ frames := 0, cells := 0, slots := 0, locals := 0 } : Room) s m args below meth c H locs 0 0 Q (F0 m 2 ls []) := by
    intro K2 hK2 I_0 L_0 v2 v3 H locs ls hS hl hF
    unfold F_X6_load_s2 at hF
    refine lv_iload_n hx hb dX6_load_2 rfl (lv_at hl 3 rfl) ?_
    refine lv_iconst (v := (nI 5)) hx hb dX6_load_3 (by decide) ?_
    refine lv_icmp_ge (tgt := 62) hx hb dX6_load_4 (by decide) (fun c_22 => ?_) (fun c_22 => ?_)
    · replace hF := ifp hF c_22
      exact B62 I_0 L_0 v2 _ _ _ hS (lv_sub hl [0, 1, 2] rfl) hF
    · replace hF := ifn hF c_22
      refine lv_aload_n hx hb dX6_load_7 rfl (lv_at hl 0 rfl) ?_
      refine r_get hx hb hts inX6 hown hK hS 0 15 rfl rfl (by decide) q12 rfl dX6_load_8 ?_
      refine lv_iload_n hx hb dX6_load_11 rfl (lv_at hl 3 rfl) ?_
      refine lv_aload_n hx hb dX6_load_12 rfl (lv_at hl 1 rfl) ?_
      refine lv_iload_n hx hb dX6_load_13 rfl (lv_at hl 2 rfl) ?_
      refine lv_iload_n hx hb dX6_load_14 rfl (lv_at hl 3 rfl) ?_
      refine lv_iadd hx hb dX6_load_15 ?_
      replace hF := rdA_e hF
      obtain ⟨hi24, x23, ex23, hF⟩ := hF
      refine r_lald hx hb hK hS 11 rfl rfl hi24 dX6_load_16 ex23 ?_
      replace hF := wrJ_e hF
      obtain ⟨hi26, L_0u25, eL_0u25, hF⟩ := hF
      refine r_last (w2 := [(h_0, oX6 h_0_of h_0_kept h_0_column h_0_size h_0_hidden h_0_cell h_0_home h_0_waste h_0_stock h_0_past h_0_start h_0_known h_0_sorted h_0_row h_0_best I_0), (h_0_of, eI cI 9 (I_0 1)), (h_0_kept, eI cI 9 (I_0 2)), (h_0_column, eJ cJ 5 (L_0u25 0)), (h_0_size, eI cI 5 (I_0 3)), (h_0_hidden, eI cI 5 (I_0 4)), (h_0_cell, eI cI 2 (I_0 5)), (h_0_home, eI cI 4 (I_0 6)), (h_0_waste, eI cI 8 (I_0 7)), (h_0_stock, eI cI 8 (I_0 8)), (h_0_past, eJ cJ 1616 (L_0u25 1)), (h_0_start, eJ cJ 8 (L_0u25 2)), (h_0_known, eJ cJ 3216 (L_0u25 3)), (h_0_sorted, eJ cJ 3216 (L_0u25 4)), (h_0_row, eI cI 16 (I_0 9)), (h_0_best, eJ cJ 8 (L_0u25 5))]) hx hb hK hS 3 rfl rfl hi26 dX6_load_17 (by rw [eL_0u25]; rfl) (fun H locs hS => ?_)
      refine lv_aload_n hx hb dX6_load_18 rfl (lv_at hl 1 rfl) ?_
      refine lv_iload_n hx hb dX6_load_19 rfl (lv_at hl 2 rfl) ?_
      refine lv_iconst (v := (nI 5)) hx hb dX6_load_20 (by decide) ?_
      refine lv_iadd hx hb dX6_load_21 ?_
      replace hF := rdA_e hF
      obtain ⟨hi28, x27, ex27, hF⟩ := hF
      refine r_lald hx hb hK hS 11 rfl rfl hi28 dX6_load_22 ex27 ?_
      refine lv_bipush (v := (nI 10)) hx hb dX6_load_23 (by decide) ?_
      refine lv_iload_n hx hb dX6_load_25 rfl (lv_at hl 3 rfl) ?_
      refine lv_imul hx hb dX6_load_26 ?_
      refine lv_lushr hx hb dX6_load_27 rfl ?_
      refine lv_ldc2 (v := (lN 1023)) hx hb hown q13 dX6_load_28 ?_
      refine lv_land hx hb dX6_load_31 ?_
      refine lv_l2i hx hb dX6_load_32 rfl ?_
      refine lv_istore (lv' := [(4, .int (((((x27.toUInt64 >>> ((((nI 10) * v3) : Int32).toInt64.toUInt64 &&& Int64.toUInt64 63)).toInt64) &&& (lN 1023)) : Int64).toInt32)), (0, .ref h_0), (1, .ref h_0_start), (2, .int v2), (3, .int v3)]) hx hb dX6_load_33 hl (by decide) rfl (fun ls hl => ?_)
      refine lv_aload_n hx hb dX6_load_35 rfl (lv_at hl 1 rfl) ?_
      refine r_get hx hb hts inX6 hown hK hS 0 16 rfl rfl (by decide) q14 rfl dX6_load_36 ?_
      refine lv_iload_n hx hb dX6_load_39 rfl (lv_at hl 4 rfl) ?_
      refine lv_iload hx hb dX6_load_40 (lv_at hl 0 rfl) ?_
      refine lv_bipush (v := (nI 31)) hx hb dX6_load_42 (by decide) ?_
      refine lv_iand hx hb dX6_load_44 ?_
      replace hF := wrA_e hF
      obtain ⟨hi30, I_0u29, eI_0u29, hF⟩ := hF
      refine r_iast (w2 := [(h_0, oX6 h_0_of h_0_kept h_0_column h_0_size h_0_hidden h_0_cell h_0_home h_0_waste h_0_stock h_0_past h_0_start h_0_known h_0_sorted h_0_row h_0_best I_0u29), (h_0_of, eI cI 9 (I_0u29 1)), (h_0_kept, eI cI 9 (I_0u29 2)), (h_0_column, eJ cJ 5 (L_0u25 0)), (h_0_size, eI cI 5 (I_0u29 3)), (h_0_hidden, eI cI 5 (I_0u29 4)), (h_0_cell, eI cI 2 (I_0u29 5)), (h_0_home, eI cI 4 (I_0u29 6)), (h_0_waste, eI cI 8 (I_0u29 7)), (h_0_stock, eI cI 8 (I_0u29 8)), (h_0_past, eJ cJ 1616 (L_0u25 1)), (h_0_start, eJ cJ 8 (L_0u25 2)), (h_0_known, eJ cJ 3216 (L_0u25 3)), (h_0_sorted, eJ cJ 3216 (L_0u25 4)), (h_0_row, eI cI 16 (I_0u29 9)), (h_0_best, eJ cJ 8 (L_0u25 5))]) hx hb hK hS 4 rfl rfl hi30 dX6_load_45 (by rw [eI_0u29]; rfl) (fun H locs hS => ?_)
      refine lv_aload_n hx hb dX6_load_46 rfl (lv_at hl 1 rfl) ?_
      refine r_get hx hb hts inX6 hown hK hS 0 17 rfl rfl (by decide) q15 rfl dX6_load_47 ?_
      refine lv_iload_n hx hb dX6_load_50 rfl (lv_at hl 4 rfl) ?_
      refine lv_iload hx hb dX6_load_51 (lv_at hl 0 rfl) ?_
      refine lv_iconst (v := (nI 5)) hx hb dX6_load_53 (by decide) ?_
      refine lv_ishr hx hb dX6_load_54 ?_
      replace hF := wrA_e hF
      obtain ⟨hi32, I_0u31, eI_0u31, hF⟩ := hF
      refine r_iast (w2 := [(h_0, oX6 h_0_of h_0_kept h_0_column h_0_size h_0_hidden h_0_cell h_0_home h_0_waste h_0_stock h_0_past h_0_start h_0_known h_0_sorted h_0_row h_0_best I_0u31), (h_0_of, eI cI 9 (I_0u31 1)), (h_0_kept, eI cI 9 (I_0u31 2)), (h_0_column, eJ cJ 5 (L_0u25 0)), (h_0_size, eI cI 5 (I_0u31 3)), (h_0_hidden, eI cI 5 (I_0u31 4)), (h_0_cell, eI cI 2 (I_0u31 5)), (h_0_home, eI cI 4 (I_0u31 6)), (h_0_waste, eI cI 8 (I_0u31 7)), (h_0_stock, eI cI 8 (I_0u31 8)), (h_0_past, eJ cJ 1616 (L_0u25 1)), (h_0_start, eJ cJ 8 (L_0u25 2)), (h_0_known, eJ cJ 3216 (L_0u25 3)), (h_0_sorted, eJ cJ 3216 (L_0u25 4)), (h_0_row, eI cI 16 (I_0u31 9)), (h_0_best, eJ cJ 8 (L_0u25 5))]) hx hb hK hS 5 rfl rfl hi32 dX6_load_55 (by rw [eI_0u31]; rfl) (fun H locs hS => ?_)
      refine lv_iinc (v := v3 + (nI 1)) (lv' := [(3, .int (v3 + (nI 1))), (4, .int (((((x27.toUInt64 >>> ((((nI 10) * v3) : Int32).toInt64.toUInt64 &&& Int64.toUInt64 63)).toInt64) &&& (lN 1023)) : Int64).toInt32)), (0, .ref h_0), (1, .ref h_0_start), (2, .int v2)]) hx hb dX6_load_56 hl (k := 4) rfl rfl (by decide) rfl (fun ls hl => ?_)
      refine lv_goto (tgt := 2) hx hb dX6_load_59 (by decide) ?_
      exact hK2 I_0u31 L_0u25 v2 (v3 + (nI 1)) _ _ _ hS (lv_sub hl [2, 3, 4, 0] rfl) hF
  have L2 : ∀  (n : Nat) (I_0 : Nat → Nat → Int32) (L_0 : Nat → Nat → Int64) (v2 : Int32) (v3 : Int32) (H : Heap) (locs : List Loc) (ls : Array Slot), HS D A H0 [(h_0, oX6 h_0_of h_0_kept h_0_column h_0_size h_0_hidden h_0_cell h_0_home h_0_waste h_0_stock h_0_past h_0_start h_0_known h_0_sorted h_0_row h_0_best I_0), (h_0_of, eI cI 9 (I_0 1)), (h_0_kept, eI cI 9 (I_0 2)), (h_0_column, eJ cJ 5 (L_0 0)), (h_0_size, eI cI 5 (I_0 3)), (h_0_hidden, eI cI 5 (I_0 4)), (h_0_cell, eI cI 2 (I_0 5)), (h_0_home, eI cI 4 (I_0 6)), (h_0_waste, eI cI 8 (I_0 7)), (h_0_stock, eI cI 8 (I_0 8)), (h_0_past, eJ cJ 1616 (L_0 1)), (h_0_start, eJ cJ 8 (L_0 2)), (h_0_known, eJ cJ 3216 (L_0 3)), (h_0_sorted, eJ cJ 3216 (L_0 4)), (h_0_row, eI cI 16 (I_0 9)), (h_0_best, eJ cJ 8 (L_0 5))] H locs → lv_has ls 6 [(0, .ref h_0), (1, .ref h_0_start), (2, .int v2), (3, .int v3)] → F_X6_load_L2 2 8  n I_0 L_0 v2 v3 = some (r_I_0, r_L_0) → W p l e ({ frames := 0, cells := 0, slots := 0, locals := 0 } : Room) s m args below meth c H locs 0 0 Q (F0 m 2 ls []) := by
    intro  n
    induction n with
    | zero => intro I_0 L_0 v2 v3 H locs ls hS hl hF; exact nomatch (show (none : Option ((Nat → Nat → Int32) × (Nat → Nat → Int64))) = some _ from hF)
    | succ n ih => intro I_0 L_0 v2 v3 H locs ls hS hl hF; exact S2  _ ih I_0 L_0 v2 v3 H locs ls hS hl hF
  unfold F_X6_load at hF
  refine lv_iconst (v := (nI 0)) hx hb dX6_load_0 (by decide) ?_
  refine lv_istore_n (lv' := [(3, .int (nI 0)), (0, .ref h_0), (1, .ref h_0_start), (2, .int v2)]) hx hb dX6_load_1 rfl hl (by decide) rfl (fun ls hl => ?_)
  exact L2 FU I_0 L_0 v2 (nI 0) _ _ _ hS (lv_sub hl [1, 2, 3, 0] rfl) hF
set_option maxHeartbeats 4000000 in
set_option maxRecDepth 100000 in
theorem c_X6_load_known (l : Launch) (D : va_G) (cI cJ : ClassId) (h_0 h_0_of h_0_kept h_0_column h_0_size h_0_hidden h_0_cell h_0_home h_0_waste h_0_stock h_0_past h_0_start h_0_known h_0_sorted h_0_row h_0_best : Nat) (I_0 : Nat → Nat → Int32) (L_0 : Nat → Nat → Int64) (v2 : Int32) (r_I_0 : Nat → Nat → Int32) (r_L_0 : Nat → Nat → Int64) (hF : F_X6_load 3 3216 I_0 L_0 v2 = some (r_I_0, r_L_0)) : CtV l D [(cI, .int), (cJ, .long)] yX6_load wtX6_load ({ frames := 0, cells := 0, slots := 0, locals := 0 } : Room) [.ref h_0, .ref h_0_known, .int v2] [(h_0, oX6 h_0_of h_0_kept h_0_column h_0_size h_0_hidden h_0_cell h_0_home h_0_waste h_0_stock h_0_past h_0_start h_0_known h_0_sorted h_0_row h_0_best I_0), (h_0_of, eI cI 9 (I_0 1)), (h_0_kept, eI cI 9 (I_0 2)), (h_0_column, eJ cJ 5 (L_0 0)), (h_0_size, eI cI 5 (I_0 3)), (h_0_hidden, eI cI 5 (I_0 4)), (h_0_cell, eI cI 2 (I_0 5)), (h_0_home, eI cI 4 (I_0 6)), (h_0_waste, eI cI 8 (I_0 7)), (h_0_stock, eI cI 8 (I_0 8)), (h_0_past, eJ cJ 1616 (L_0 1)), (h_0_start, eJ cJ 8 (L_0 2)), (h_0_known, eJ cJ 3216 (L_0 3)), (h_0_sorted, eJ cJ 3216 (L_0 4)), (h_0_row, eI cI 16 (I_0 9)), (h_0_best, eJ cJ 8 (L_0 5))] [(h_0, oX6 h_0_of h_0_kept h_0_column h_0_size h_0_hidden h_0_cell h_0_home h_0_waste h_0_stock h_0_past h_0_start h_0_known h_0_sorted h_0_row h_0_best r_I_0), (h_0_of, eI cI 9 (r_I_0 1)), (h_0_kept, eI cI 9 (r_I_0 2)), (h_0_column, eJ cJ 5 (r_L_0 0)), (h_0_size, eI cI 5 (r_I_0 3)), (h_0_hidden, eI cI 5 (r_I_0 4)), (h_0_cell, eI cI 2 (r_I_0 5)), (h_0_home, eI cI 4 (r_I_0 6)), (h_0_waste, eI cI 8 (r_I_0 7)), (h_0_stock, eI cI 8 (r_I_0 8)), (h_0_past, eJ cJ 1616 (r_L_0 1)), (h_0_start, eJ cJ 8 (r_L_0 2)), (h_0_known, eJ cJ 3216 (r_L_0 3)), (h_0_sorted, eJ cJ 3216 (r_L_0 4)), (h_0_row, eI cI 16 (r_I_0 9)), (h_0_best, eJ cJ 8 (r_L_0 5))] := by
  refine CtV.of (cc := cX6_load) (maxL := 6) (by decide) rfl (Nat.le_of_ble_eq_true rfl) ?_
  intro p e s m args below meth c A H0 Q ls X hS hl kret
  have hCF := X.1
  obtain ⟨⟨hx, hb, hml, hown, hts⟩, hK, hA⟩ := X
  have hl : lv_has ls 6 [(0, .ref h_0), (1, .ref h_0_known), (2, .int v2)] := hl
  have q0 := hts (.fieldLink RX6 48 "PatienceryModel" "waste" "[I") (List.mem_cons_of_mem _ mw_168)
  have inX6 : ∀ w ∈ u_ws RX6 TX6 32, w ∈ wtX6_load := fun w h => List.mem_cons_of_mem _ (inlX6 w h)
  have q2 := hts (.constantLong RX6 157 (15)) (List.mem_cons_of_mem _ mw_338)
  have q3 := hts (.fieldLink RX6 51 "PatienceryModel" "stock" "[I") (List.mem_cons_of_mem _ mw_169)
  have q4 := hts (.fieldLink RX6 45 "PatienceryModel" "home" "[I") (List.mem_cons_of_mem _ mw_167)
  have q5 := hts (.constantLong RX6 171 (7)) (List.mem_cons_of_mem _ mw_339)
  have q6 := hts (.fieldLink RX6 42 "PatienceryModel" "cell" "[I") (List.mem_cons_of_mem _ mw_166)
  have q7 := hts (.constantLong RX6 167 (31)) (List.mem_cons_of_mem _ mw_336)
  have q8 := hts (.constantLong RX6 169 (3)) (List.mem_cons_of_mem _ mw_337)
  have q9 := hts (.fieldLink RX6 123 "PatienceryModel" "turned" "I") (List.mem_cons_of_mem _ mw_196)
  have q10 := hts (.fieldLink RX6 117 "PatienceryModel" "wasted" "I") (List.mem_cons_of_mem _ mw_195)
  have q11 := hts (.fieldLink RX6 120 "PatienceryModel" "left" "I") (List.mem_cons_of_mem _ mw_190)
  have q12 := hts (.fieldLink RX6 32 "PatienceryModel" "column" "[J") (List.mem_cons_of_mem _ mw_163)
  have q13 := hts (.constantLong RX6 165 (1023)) (List.mem_cons_of_mem _ mw_335)
  have q14 := hts (.fieldLink RX6 36 "PatienceryModel" "size" "[I") (List.mem_cons_of_mem _ mw_164)
  have q15 := hts (.fieldLink RX6 39 "PatienceryModel" "hidden" "[I") (List.mem_cons_of_mem _ mw_165)
  have S177 : ∀ (K177 : (Nat → Nat → Int32) → (Nat → Nat → Int64) → Int32 → Int32 → Option ((Nat → Nat → Int32) × (Nat → Nat → Int64))) (_ : ∀ (I_0 : Nat → Nat → Int32) (L_0 : Nat → Nat → Int64) (v2 : Int32) (v5 : Int32) (H : Heap) (locs : List Loc) (ls : Array Slot), HS D A H0 [(h_0, oX6 h_0_of h_0_kept h_0_column h_0_size h_0_hidden h_0_cell h_0_home h_0_waste h_0_stock h_0_past h_0_start h_0_known h_0_sorted h_0_row h_0_best I_0), (h_0_of, eI cI 9 (I_0 1)), (h_0_kept, eI cI 9 (I_0 2)), (h_0_column, eJ cJ 5 (L_0 0)), (h_0_size, eI cI 5 (I_0 3)), (h_0_hidden, eI cI 5 (I_0 4)), (h_0_cell, eI cI 2 (I_0 5)), (h_0_home, eI cI 4 (I_0 6)), (h_0_waste, eI cI 8 (I_0 7)), (h_0_stock, eI cI 8 (I_0 8)), (h_0_past, eJ cJ 1616 (L_0 1)), (h_0_start, eJ cJ 8 (L_0 2)), (h_0_known, eJ cJ 3216 (L_0 3)), (h_0_sorted, eJ cJ 3216 (L_0 4)), (h_0_row, eI cI 16 (I_0 9)), (h_0_best, eJ cJ 8 (L_0 5))] H locs → lv_has ls 6 [(0, .ref h_0), (1, .ref h_0_known), (2, .int v2), (5, .int v5)] → K177 I_0 L_0 v2 v5 = some (r_I_0, r_L_0) → W p l e ({ frames := 0, cells := 0, slots := 0, locals := 0 } : Room) s m args below meth c H locs 0 0 Q (F0 m 177 ls [])) (I_0 : Nat → Nat → Int32) (L_0 : Nat → Nat → Int64) (v2 : Int32) (v5 : Int32) (H : Heap) (locs : List Loc) (ls : Array Slot), HS D A H0 [(h_0, oX6 h_0_of h_0_kept h_0_column h_0_size h_0_hidden h_0_cell h_0_home h_0_waste h_0_stock h_0_past h_0_start h_0_known h_0_sorted h_0_row h_0_best I_0), (h_0_of, eI cI 9 (I_0 1)), (h_0_kept, eI cI 9 (I_0 2)), (h_0_column, eJ cJ 5 (L_0 0)), (h_0_size, eI cI 5 (I_0 3)), (h_0_hidden, eI cI 5 (I_0 4)), (h_0_cell, eI cI 2 (I_0 5)), (h_0_home, eI cI 4 (I_0 6)), (h_0_waste, eI cI 8 (I_0 7)), (h_0_stock, eI cI 8 (I_0 8)), (h_0_past, eJ cJ 1616 (L_0 1)), (h_0_start, eJ cJ 8 (L_0 2)), (h_0_known, eJ cJ 3216 (L_0 3)), (h_0_sorted, eJ cJ 3216 (L_0 4)), (h_0_row, eI cI 16 (I_0 9)), (h_0_best, eJ cJ 8 (L_0 5))] H locs → lv_has ls 6 [(0, .ref h_0), (1, .ref h_0_known), (2, .int v2), (5, .int v5)] → F_X6_load_s177 3 3216 K177 I_0 L_0 v2 v5 = some (r_I_0, r_L_0) → W p l e ({ frames := 0, cells := 0, slots := 0, locals := 0 } : Room) s m args below meth c H locs 0 0 Q (F0 m 177 ls []) := by
    intro K177 hK177 I_0 L_0 v2 v5 H locs ls hS hl hF
    unfold F_X6_load_s177 at hF
    refine lv_iload hx hb dX6_load_177 (lv_at hl 3 rfl) ?_
    refine lv_bipush (v := (nI 8)) hx hb dX6_load_179 (by decide) ?_
    refine lv_icmp_ge (tgt := 239) hx hb dX6_load_181 (by decide) (fun c_1 => ?_) (fun c_1 => ?_)
    · replace hF := ifp hF c_1
      have e9_0 := Option.some.inj hF
      obtain ⟨f9_0, e9_1⟩ := Prod.mk.inj e9_0
      subst f9_0
      subst e9_1
      exact kret _ _ _ _ hS dX6_load_239
    · replace hF := ifn hF c_1
      refine lv_aload_n hx hb dX6_load_184 rfl (lv_at hl 0 rfl) ?_
      refine r_get hx hb hts inX6 hown hK hS 0 20 rfl rfl (by decide) q0 rfl dX6_load_185 ?_
      refine lv_iload hx hb dX6_load_188 (lv_at hl 3 rfl) ?_
      refine lv_aload_n hx hb dX6_load_190 rfl (lv_at hl 1 rfl) ?_
      refine lv_iload_n hx hb dX6_load_191 rfl (lv_at hl 2 rfl) ?_
      refine lv_bipush (v := (nI 7)) hx hb dX6_load_192 (by decide) ?_
      refine lv_iadd hx hb dX6_load_194 ?_
      replace hF := rdA_e hF
      obtain ⟨hi3, x2, ex2, hF⟩ := hF
      refine r_lald hx hb hK hS 12 rfl rfl hi3 dX6_load_195 ex2 ?_
      refine lv_iconst (v := (nI 4)) hx hb dX6_load_196 (by decide) ?_
      refine lv_iload hx hb dX6_load_197 (lv_at hl 3 rfl) ?_
      refine lv_imul hx hb dX6_load_199 ?_
      refine lv_lushr hx hb dX6_load_200 rfl ?_
      refine lv_ldc2 (v := (lN 15)) hx hb hown q2 dX6_load_201 ?_
      refine lv_land hx hb dX6_load_204 ?_
      refine lv_l2i hx hb dX6_load_205 rfl ?_
      replace hF := wrA_e hF
      obtain ⟨hi5, I_0u4, eI_0u4, hF⟩ := hF
      refine r_iast (w2 := [(h_0, oX6 h_0_of h_0_kept h_0_column h_0_size h_0_hidden h_0_cell h_0_home h_0_waste h_0_stock h_0_past h_0_start h_0_known h_0_sorted h_0_row h_0_best I_0u4), (h_0_of, eI cI 9 (I_0u4 1)), (h_0_kept, eI cI 9 (I_0u4 2)), (h_0_column, eJ cJ 5 (L_0 0)), (h_0_size, eI cI 5 (I_0u4 3)), (h_0_hidden, eI cI 5 (I_0u4 4)), (h_0_cell, eI cI 2 (I_0u4 5)), (h_0_home, eI cI 4 (I_0u4 6)), (h_0_waste, eI cI 8 (I_0u4 7)), (h_0_stock, eI cI 8 (I_0u4 8)), (h_0_past, eJ cJ 1616 (L_0 1)), (h_0_start, eJ cJ 8 (L_0 2)), (h_0_known, eJ cJ 3216 (L_0 3)), (h_0_sorted, eJ cJ 3216 (L_0 4)), (h_0_row, eI cI 16 (I_0u4 9)), (h_0_best, eJ cJ 8 (L_0 5))]) hx hb hK hS 8 rfl rfl hi5 dX6_load_206 (by rw [eI_0u4]; rfl) (fun H locs hS => ?_)
      refine lv_aload_n hx hb dX6_load_207 rfl (lv_at hl 0 rfl) ?_
      refine r_get hx hb hts inX6 hown hK hS 0 22 rfl rfl (by decide) q3 rfl dX6_load_208 ?_
      refine lv_iload hx hb dX6_load_211 (lv_at hl 3 rfl) ?_
      refine lv_aload_n hx hb dX6_load_213 rfl (lv_at hl 1 rfl) ?_
      refine lv_iload_n hx hb dX6_load_214 rfl (lv_at hl 2 rfl) ?_
      refine lv_bipush (v := (nI 7)) hx hb dX6_load_215 (by decide) ?_
      refine lv_iadd hx hb dX6_load_217 ?_
      replace hF := rdA_e hF
      obtain ⟨hi7, x6, ex6, hF⟩ := hF
      refine r_lald hx hb hK hS 12 rfl rfl hi7 dX6_load_218 ex6 ?_
      refine lv_bipush (v := (nI 32)) hx hb dX6_load_219 (by decide) ?_
      refine lv_iconst (v := (nI 4)) hx hb dX6_load_221 (by decide) ?_
      refine lv_iload hx hb dX6_load_222 (lv_at hl 3 rfl) ?_
      refine lv_imul hx hb dX6_load_224 ?_
      refine lv_iadd hx hb dX6_load_225 ?_
      refine lv_lushr hx hb dX6_load_226 rfl ?_
      refine lv_ldc2 (v := (lN 15)) hx hb hown q2 dX6_load_227 ?_
      refine lv_land hx hb dX6_load_230 ?_
      refine lv_l2i hx hb dX6_load_231 rfl ?_
      replace hF := wrA_e hF
      obtain ⟨hi9, I_0u8, eI_0u8, hF⟩ := hF
      refine r_iast (w2 := [(h_0, oX6 h_0_of h_0_kept h_0_column h_0_size h_0_hidden h_0_cell h_0_home h_0_waste h_0_stock h_0_past h_0_start h_0_known h_0_sorted h_0_row h_0_best I_0u8), (h_0_of, eI cI 9 (I_0u8 1)), (h_0_kept, eI cI 9 (I_0u8 2)), (h_0_column, eJ cJ 5 (L_0 0)), (h_0_size, eI cI 5 (I_0u8 3)), (h_0_hidden, eI cI 5 (I_0u8 4)), (h_0_cell, eI cI 2 (I_0u8 5)), (h_0_home, eI cI 4 (I_0u8 6)), (h_0_waste, eI cI 8 (I_0u8 7)), (h_0_stock, eI cI 8 (I_0u8 8)), (h_0_past, eJ cJ 1616 (L_0 1)), (h_0_start, eJ cJ 8 (L_0 2)), (h_0_known, eJ cJ 3216 (L_0 3)), (h_0_sorted, eJ cJ 3216 (L_0 4)), (h_0_row, eI cI 16 (I_0u8 9)), (h_0_best, eJ cJ 8 (L_0 5))]) hx hb hK hS 9 rfl rfl hi9 dX6_load_232 (by rw [eI_0u8]; rfl) (fun H locs hS => ?_)
      refine lv_iinc (v := v5 + (nI 1)) (lv' := [(5, .int (v5 + (nI 1))), (0, .ref h_0), (1, .ref h_0_known), (2, .int v2)]) hx hb dX6_load_233 hl (k := 3) rfl rfl (by decide) rfl (fun ls hl => ?_)
      refine lv_goto (tgt := 177) hx hb dX6_load_236 (by decide) ?_
      exact hK177 I_0u8 L_0 v2 (v5 + (nI 1)) _ _ _ hS (lv_sub hl [1, 2, 3, 0] rfl) hF
  have L177 : ∀  (n : Nat) (I_0 : Nat → Nat → Int32) (L_0 : Nat → Nat → Int64) (v2 : Int32) (v5 : Int32) (H : Heap) (locs : List Loc) (ls : Array Slot), HS D A H0 [(h_0, oX6 h_0_of h_0_kept h_0_column h_0_size h_0_hidden h_0_cell h_0_home h_0_waste h_0_stock h_0_past h_0_start h_0_known h_0_sorted h_0_row h_0_best I_0), (h_0_of, eI cI 9 (I_0 1)), (h_0_kept, eI cI 9 (I_0 2)), (h_0_column, eJ cJ 5 (L_0 0)), (h_0_size, eI cI 5 (I_0 3)), (h_0_hidden, eI cI 5 (I_0 4)), (h_0_cell, eI cI 2 (I_0 5)), (h_0_home, eI cI 4 (I_0 6)), (h_0_waste, eI cI 8 (I_0 7)), (h_0_stock, eI cI 8 (I_0 8)), (h_0_past, eJ cJ 1616 (L_0 1)), (h_0_start, eJ cJ 8 (L_0 2)), (h_0_known, eJ cJ 3216 (L_0 3)), (h_0_sorted, eJ cJ 3216 (L_0 4)), (h_0_row, eI cI 16 (I_0 9)), (h_0_best, eJ cJ 8 (L_0 5))] H locs → lv_has ls 6 [(0, .ref h_0), (1, .ref h_0_known), (2, .int v2), (5, .int v5)] → F_X6_load_L177 3 3216  n I_0 L_0 v2 v5 = some (r_I_0, r_L_0) → W p l e ({ frames := 0, cells := 0, slots := 0, locals := 0 } : Room) s m args below meth c H locs 0 0 Q (F0 m 177 ls []) := by
    intro  n
    induction n with
    | zero => intro I_0 L_0 v2 v5 H locs ls hS hl hF; exact nomatch (show (none : Option ((Nat → Nat → Int32) × (Nat → Nat → Int64))) = some _ from hF)
    | succ n ih => intro I_0 L_0 v2 v5 H locs ls hS hl hF; exact S177  _ ih I_0 L_0 v2 v5 H locs ls hS hl hF
  have S141 : ∀ (K141 : (Nat → Nat → Int32) → (Nat → Nat → Int64) → Int32 → Int64 → Int32 → Option ((Nat → Nat → Int32) × (Nat → Nat → Int64))) (_ : ∀ (I_0 : Nat → Nat → Int32) (L_0 : Nat → Nat → Int64) (v2 : Int32) (v3 : Int64) (v5 : Int32) (H : Heap) (locs : List Loc) (ls : Array Slot), HS D A H0 [(h_0, oX6 h_0_of h_0_kept h_0_column h_0_size h_0_hidden h_0_cell h_0_home h_0_waste h_0_stock h_0_past h_0_start h_0_known h_0_sorted h_0_row h_0_best I_0), (h_0_of, eI cI 9 (I_0 1)), (h_0_kept, eI cI 9 (I_0 2)), (h_0_column, eJ cJ 5 (L_0 0)), (h_0_size, eI cI 5 (I_0 3)), (h_0_hidden, eI cI 5 (I_0 4)), (h_0_cell, eI cI 2 (I_0 5)), (h_0_home, eI cI 4 (I_0 6)), (h_0_waste, eI cI 8 (I_0 7)), (h_0_stock, eI cI 8 (I_0 8)), (h_0_past, eJ cJ 1616 (L_0 1)), (h_0_start, eJ cJ 8 (L_0 2)), (h_0_known, eJ cJ 3216 (L_0 3)), (h_0_sorted, eJ cJ 3216 (L_0 4)), (h_0_row, eI cI 16 (I_0 9)), (h_0_best, eJ cJ 8 (L_0 5))] H locs → lv_has ls 6 [(0, .ref h_0), (1, .ref h_0_known), (2, .int v2), (3, .long v3), (5, .int v5)] → K141 I_0 L_0 v2 v3 v5 = some (r_I_0, r_L_0) → W p l e ({ frames := 0, cells := 0, slots := 0, locals := 0 } : Room) s m args below meth c H locs 0 0 Q (F0 m 141 ls [])) (I_0 : Nat → Nat → Int32) (L_0 : Nat → Nat → Int64) (v2 : Int32) (v3 : Int64) (v5 : Int32) (H : Heap) (locs : List Loc) (ls : Array Slot), HS D A H0 [(h_0, oX6 h_0_of h_0_kept h_0_column h_0_size h_0_hidden h_0_cell h_0_home h_0_waste h_0_stock h_0_past h_0_start h_0_known h_0_sorted h_0_row h_0_best I_0), (h_0_of, eI cI 9 (I_0 1)), (h_0_kept, eI cI 9 (I_0 2)), (h_0_column, eJ cJ 5 (L_0 0)), (h_0_size, eI cI 5 (I_0 3)), (h_0_hidden, eI cI 5 (I_0 4)), (h_0_cell, eI cI 2 (I_0 5)), (h_0_home, eI cI 4 (I_0 6)), (h_0_waste, eI cI 8 (I_0 7)), (h_0_stock, eI cI 8 (I_0 8)), (h_0_past, eJ cJ 1616 (L_0 1)), (h_0_start, eJ cJ 8 (L_0 2)), (h_0_known, eJ cJ 3216 (L_0 3)), (h_0_sorted, eJ cJ 3216 (L_0 4)), (h_0_row, eI cI 16 (I_0 9)), (h_0_best, eJ cJ 8 (L_0 5))] H locs → lv_has ls 6 [(0, .ref h_0), (1, .ref h_0_known), (2, .int v2), (3, .long v3), (5, .int v5)] → F_X6_load_s141 3 3216 K141 I_0 L_0 v2 v3 v5 = some (r_I_0, r_L_0) → W p l e ({ frames := 0, cells := 0, slots := 0, locals := 0 } : Room) s m args below meth c H locs 0 0 Q (F0 m 141 ls []) := by
    intro K141 hK141 I_0 L_0 v2 v3 v5 H locs ls hS hl hF
    unfold F_X6_load_s141 at hF
    refine lv_iload hx hb dX6_load_141 (lv_at hl 4 rfl) ?_
    refine lv_iconst (v := (nI 4)) hx hb dX6_load_143 (by decide) ?_
    refine lv_icmp_ge (tgt := 174) hx hb dX6_load_144 (by decide) (fun c_10 => ?_) (fun c_10 => ?_)
    · replace hF := ifp hF c_10
      refine lv_iconst (v := (nI 0)) hx hb dX6_load_174 (by decide) ?_
      refine lv_istore (lv' := [(5, .int (nI 0)), (0, .ref h_0), (1, .ref h_0_known), (2, .int v2), (3, .long v3)]) hx hb dX6_load_175 hl (by decide) rfl (fun ls hl => ?_)
      exact L177 FU I_0 L_0 v2 (nI 0) _ _ _ hS (lv_sub hl [1, 2, 3, 0] rfl) hF
    · replace hF := ifn hF c_10
      refine lv_aload_n hx hb dX6_load_147 rfl (lv_at hl 0 rfl) ?_
      refine r_get hx hb hts inX6 hown hK hS 0 19 rfl rfl (by decide) q4 rfl dX6_load_148 ?_
      refine lv_iload hx hb dX6_load_151 (lv_at hl 4 rfl) ?_
      refine lv_lload_n hx hb dX6_load_153 rfl (lv_at hl 3 rfl) ?_
      refine lv_bipush (v := (nI 20)) hx hb dX6_load_154 (by decide) ?_
      refine lv_iconst (v := (nI 3)) hx hb dX6_load_156 (by decide) ?_
      refine lv_iload hx hb dX6_load_157 (lv_at hl 4 rfl) ?_
      refine lv_imul hx hb dX6_load_159 ?_
      refine lv_iadd hx hb dX6_load_160 ?_
      refine lv_lushr hx hb dX6_load_161 rfl ?_
      refine lv_ldc2 (v := (lN 7)) hx hb hown q5 dX6_load_162 ?_
      refine lv_land hx hb dX6_load_165 ?_
      refine lv_l2i hx hb dX6_load_166 rfl ?_
      replace hF := wrA_e hF
      obtain ⟨hi12, I_0u11, eI_0u11, hF⟩ := hF
      refine r_iast (w2 := [(h_0, oX6 h_0_of h_0_kept h_0_column h_0_size h_0_hidden h_0_cell h_0_home h_0_waste h_0_stock h_0_past h_0_start h_0_known h_0_sorted h_0_row h_0_best I_0u11), (h_0_of, eI cI 9 (I_0u11 1)), (h_0_kept, eI cI 9 (I_0u11 2)), (h_0_column, eJ cJ 5 (L_0 0)), (h_0_size, eI cI 5 (I_0u11 3)), (h_0_hidden, eI cI 5 (I_0u11 4)), (h_0_cell, eI cI 2 (I_0u11 5)), (h_0_home, eI cI 4 (I_0u11 6)), (h_0_waste, eI cI 8 (I_0u11 7)), (h_0_stock, eI cI 8 (I_0u11 8)), (h_0_past, eJ cJ 1616 (L_0 1)), (h_0_start, eJ cJ 8 (L_0 2)), (h_0_known, eJ cJ 3216 (L_0 3)), (h_0_sorted, eJ cJ 3216 (L_0 4)), (h_0_row, eI cI 16 (I_0u11 9)), (h_0_best, eJ cJ 8 (L_0 5))]) hx hb hK hS 7 rfl rfl hi12 dX6_load_167 (by rw [eI_0u11]; rfl) (fun H locs hS => ?_)
      refine lv_iinc (v := v5 + (nI 1)) (lv' := [(5, .int (v5 + (nI 1))), (0, .ref h_0), (1, .ref h_0_known), (2, .int v2), (3, .long v3)]) hx hb dX6_load_168 hl (k := 4) rfl rfl (by decide) rfl (fun ls hl => ?_)
      refine lv_goto (tgt := 141) hx hb dX6_load_171 (by decide) ?_
      exact hK141 I_0u11 L_0 v2 v3 (v5 + (nI 1)) _ _ _ hS (lv_sub hl [1, 2, 3, 4, 0] rfl) hF
  have L141 : ∀  (n : Nat) (I_0 : Nat → Nat → Int32) (L_0 : Nat → Nat → Int64) (v2 : Int32) (v3 : Int64) (v5 : Int32) (H : Heap) (locs : List Loc) (ls : Array Slot), HS D A H0 [(h_0, oX6 h_0_of h_0_kept h_0_column h_0_size h_0_hidden h_0_cell h_0_home h_0_waste h_0_stock h_0_past h_0_start h_0_known h_0_sorted h_0_row h_0_best I_0), (h_0_of, eI cI 9 (I_0 1)), (h_0_kept, eI cI 9 (I_0 2)), (h_0_column, eJ cJ 5 (L_0 0)), (h_0_size, eI cI 5 (I_0 3)), (h_0_hidden, eI cI 5 (I_0 4)), (h_0_cell, eI cI 2 (I_0 5)), (h_0_home, eI cI 4 (I_0 6)), (h_0_waste, eI cI 8 (I_0 7)), (h_0_stock, eI cI 8 (I_0 8)), (h_0_past, eJ cJ 1616 (L_0 1)), (h_0_start, eJ cJ 8 (L_0 2)), (h_0_known, eJ cJ 3216 (L_0 3)), (h_0_sorted, eJ cJ 3216 (L_0 4)), (h_0_row, eI cI 16 (I_0 9)), (h_0_best, eJ cJ 8 (L_0 5))] H locs → lv_has ls 6 [(0, .ref h_0), (1, .ref h_0_known), (2, .int v2), (3, .long v3), (5, .int v5)] → F_X6_load_L141 3 3216  n I_0 L_0 v2 v3 v5 = some (r_I_0, r_L_0) → W p l e ({ frames := 0, cells := 0, slots := 0, locals := 0 } : Room) s m args below meth c H locs 0 0 Q (F0 m 141 ls []) := by
    intro  n
    induction n with
    | zero => intro I_0 L_0 v2 v3 v5 H locs ls hS hl hF; exact nomatch (show (none : Option ((Nat → Nat → Int32) × (Nat → Nat → Int64))) = some _ from hF)
    | succ n ih => intro I_0 L_0 v2 v3 v5 H locs ls hS hl hF; exact S141  _ ih I_0 L_0 v2 v3 v5 H locs ls hS hl hF
  have B62 : ∀ (I_0 : Nat → Nat → Int32) (L_0 : Nat → Nat → Int64) (v2 : Int32) (H : Heap) (locs : List Loc) (ls : Array Slot), HS D A H0 [(h_0, oX6 h_0_of h_0_kept h_0_column h_0_size h_0_hidden h_0_cell h_0_home h_0_waste h_0_stock h_0_past h_0_start h_0_known h_0_sorted h_0_row h_0_best I_0), (h_0_of, eI cI 9 (I_0 1)), (h_0_kept, eI cI 9 (I_0 2)), (h_0_column, eJ cJ 5 (L_0 0)), (h_0_size, eI cI 5 (I_0 3)), (h_0_hidden, eI cI 5 (I_0 4)), (h_0_cell, eI cI 2 (I_0 5)), (h_0_home, eI cI 4 (I_0 6)), (h_0_waste, eI cI 8 (I_0 7)), (h_0_stock, eI cI 8 (I_0 8)), (h_0_past, eJ cJ 1616 (L_0 1)), (h_0_start, eJ cJ 8 (L_0 2)), (h_0_known, eJ cJ 3216 (L_0 3)), (h_0_sorted, eJ cJ 3216 (L_0 4)), (h_0_row, eI cI 16 (I_0 9)), (h_0_best, eJ cJ 8 (L_0 5))] H locs → lv_has ls 6 [(0, .ref h_0), (1, .ref h_0_known), (2, .int v2)] → F_X6_load_b62 3 3216  I_0 L_0 v2 = some (r_I_0, r_L_0) → W p l e ({ frames := 0, cells := 0, slots := 0, locals := 0 } : Room) s m args below meth c H locs 0 0 Q (F0 m 62 ls []) := by
    intro I_0 L_0 v2 H locs ls hS hl hF
    unfold F_X6_load_b62 at hF
    refine lv_aload_n hx hb dX6_load_62 rfl (lv_at hl 1 rfl) ?_
    refine lv_iload_n hx hb dX6_load_63 rfl (lv_at hl 2 rfl) ?_
    refine lv_bipush (v := (nI 6)) hx hb dX6_load_64 (by decide) ?_
    refine lv_iadd hx hb dX6_load_66 ?_
    replace hF := rdA_e hF
    obtain ⟨hi14, x13, ex13, hF⟩ := hF
    refine r_lald hx hb hK hS 12 rfl rfl hi14 dX6_load_67 ex13 ?_
    refine lv_lstore_n (lv' := [(3, .long x13), (0, .ref h_0), (1, .ref h_0_known), (2, .int v2)]) hx hb dX6_load_68 rfl hl (by decide) rfl (fun ls hl => ?_)
    refine lv_aload_n hx hb dX6_load_69 rfl (lv_at hl 1 rfl) ?_
    refine r_get hx hb hts inX6 hown hK hS 0 18 rfl rfl (by decide) q6 rfl dX6_load_70 ?_
    refine lv_iconst (v := (nI 0)) hx hb dX6_load_73 (by decide) ?_
    refine lv_lload_n hx hb dX6_load_74 rfl (lv_at hl 0 rfl) ?_
    refine lv_ldc2 (v := (lN 31)) hx hb hown q7 dX6_load_75 ?_
    refine lv_land hx hb dX6_load_78 ?_
    refine lv_l2i hx hb dX6_load_79 rfl ?_
    refine lv_iconst (v := (nI 1)) hx hb dX6_load_80 (by decide) ?_
    refine lv_isub hx hb dX6_load_81 ?_
    replace hF := wrA_e hF
    obtain ⟨hi16, I_0u15, eI_0u15, hF⟩ := hF
    refine r_iast (w2 := [(h_0, oX6 h_0_of h_0_kept h_0_column h_0_size h_0_hidden h_0_cell h_0_home h_0_waste h_0_stock h_0_past h_0_start h_0_known h_0_sorted h_0_row h_0_best I_0u15), (h_0_of, eI cI 9 (I_0u15 1)), (h_0_kept, eI cI 9 (I_0u15 2)), (h_0_column, eJ cJ 5 (L_0 0)), (h_0_size, eI cI 5 (I_0u15 3)), (h_0_hidden, eI cI 5 (I_0u15 4)), (h_0_cell, eI cI 2 (I_0u15 5)), (h_0_home, eI cI 4 (I_0u15 6)), (h_0_waste, eI cI 8 (I_0u15 7)), (h_0_stock, eI cI 8 (I_0u15 8)), (h_0_past, eJ cJ 1616 (L_0 1)), (h_0_start, eJ cJ 8 (L_0 2)), (h_0_known, eJ cJ 3216 (L_0 3)), (h_0_sorted, eJ cJ 3216 (L_0 4)), (h_0_row, eI cI 16 (I_0u15 9)), (h_0_best, eJ cJ 8 (L_0 5))]) hx hb hK hS 6 rfl rfl hi16 dX6_load_82 (by rw [eI_0u15]; rfl) (fun H locs hS => ?_)
    refine lv_aload_n hx hb dX6_load_83 rfl (lv_at hl 1 rfl) ?_
    refine r_get hx hb hts inX6 hown hK hS 0 18 rfl rfl (by decide) q6 rfl dX6_load_84 ?_
    refine lv_iconst (v := (nI 1)) hx hb dX6_load_87 (by decide) ?_
    refine lv_lload_n hx hb dX6_load_88 rfl (lv_at hl 0 rfl) ?_
    refine lv_iconst (v := (nI 5)) hx hb dX6_load_89 (by decide) ?_
    refine lv_lushr hx hb dX6_load_90 rfl ?_
    refine lv_ldc2 (v := (lN 31)) hx hb hown q7 dX6_load_91 ?_
    refine lv_land hx hb dX6_load_94 ?_
    refine lv_l2i hx hb dX6_load_95 rfl ?_
    refine lv_iconst (v := (nI 1)) hx hb dX6_load_96 (by decide) ?_
    refine lv_isub hx hb dX6_load_97 ?_
    replace hF := wrA_e hF
    obtain ⟨hi18, I_0u17, eI_0u17, hF⟩ := hF
    refine r_iast (w2 := [(h_0, oX6 h_0_of h_0_kept h_0_column h_0_size h_0_hidden h_0_cell h_0_home h_0_waste h_0_stock h_0_past h_0_start h_0_known h_0_sorted h_0_row h_0_best I_0u17), (h_0_of, eI cI 9 (I_0u17 1)), (h_0_kept, eI cI 9 (I_0u17 2)), (h_0_column, eJ cJ 5 (L_0 0)), (h_0_size, eI cI 5 (I_0u17 3)), (h_0_hidden, eI cI 5 (I_0u17 4)), (h_0_cell, eI cI 2 (I_0u17 5)), (h_0_home, eI cI 4 (I_0u17 6)), (h_0_waste, eI cI 8 (I_0u17 7)), (h_0_stock, eI cI 8 (I_0u17 8)), (h_0_past, eJ cJ 1616 (L_0 1)), (h_0_start, eJ cJ 8 (L_0 2)), (h_0_known, eJ cJ 3216 (L_0 3)), (h_0_sorted, eJ cJ 3216 (L_0 4)), (h_0_row, eI cI 16 (I_0u17 9)), (h_0_best, eJ cJ 8 (L_0 5))]) hx hb hK hS 6 rfl rfl hi18 dX6_load_98 (by rw [eI_0u17]; rfl) (fun H locs hS => ?_)
    refine lv_aload_n hx hb dX6_load_99 rfl (lv_at hl 1 rfl) ?_
    refine lv_lload_n hx hb dX6_load_100 rfl (lv_at hl 0 rfl) ?_
    refine lv_bipush (v := (nI 10)) hx hb dX6_load_101 (by decide) ?_
    refine lv_lushr hx hb dX6_load_103 rfl ?_
    refine lv_ldc2 (v := (lN 3)) hx hb hown q8 dX6_load_104 ?_
    refine lv_land hx hb dX6_load_107 ?_
    refine lv_l2i hx hb dX6_load_108 rfl ?_
    replace hF := bnd_e hF
    obtain ⟨I_0u19, eI_0u19, hF⟩ := hF
    refine r_put (w2 := [(h_0, oX6 h_0_of h_0_kept h_0_column h_0_size h_0_hidden h_0_cell h_0_home h_0_waste h_0_stock h_0_past h_0_start h_0_known h_0_sorted h_0_row h_0_best I_0u19), (h_0_of, eI cI 9 (I_0u19 1)), (h_0_kept, eI cI 9 (I_0u19 2)), (h_0_column, eJ cJ 5 (L_0 0)), (h_0_size, eI cI 5 (I_0u19 3)), (h_0_hidden, eI cI 5 (I_0u19 4)), (h_0_cell, eI cI 2 (I_0u19 5)), (h_0_home, eI cI 4 (I_0u19 6)), (h_0_waste, eI cI 8 (I_0u19 7)), (h_0_stock, eI cI 8 (I_0u19 8)), (h_0_past, eJ cJ 1616 (L_0 1)), (h_0_start, eJ cJ 8 (L_0 2)), (h_0_known, eJ cJ 3216 (L_0 3)), (h_0_sorted, eJ cJ 3216 (L_0 4)), (h_0_row, eI cI 16 (I_0u19 9)), (h_0_best, eJ cJ 8 (L_0 5))]) hx hb hts inX6 tyX6 tyX6_ok nmX6 hown hK hS 0 24 rfl rfl (by decide) q9 rfl rfl rfl (Nat.le_of_ble_eq_true rfl) dX6_load_109 (by rw [eI_0u19]; rfl) (fun H locs hS => ?_)
    refine lv_aload_n hx hb dX6_load_112 rfl (lv_at hl 1 rfl) ?_
    refine lv_lload_n hx hb dX6_load_113 rfl (lv_at hl 0 rfl) ?_
    refine lv_bipush (v := (nI 12)) hx hb dX6_load_114 (by decide) ?_
    refine lv_lushr hx hb dX6_load_116 rfl ?_
    refine lv_ldc2 (v := (lN 15)) hx hb hown q2 dX6_load_117 ?_
    refine lv_land hx hb dX6_load_120 ?_
    refine lv_l2i hx hb dX6_load_121 rfl ?_
    replace hF := bnd_e hF
    obtain ⟨I_0u20, eI_0u20, hF⟩ := hF
    refine r_put (w2 := [(h_0, oX6 h_0_of h_0_kept h_0_column h_0_size h_0_hidden h_0_cell h_0_home h_0_waste h_0_stock h_0_past h_0_start h_0_known h_0_sorted h_0_row h_0_best I_0u20), (h_0_of, eI cI 9 (I_0u20 1)), (h_0_kept, eI cI 9 (I_0u20 2)), (h_0_column, eJ cJ 5 (L_0 0)), (h_0_size, eI cI 5 (I_0u20 3)), (h_0_hidden, eI cI 5 (I_0u20 4)), (h_0_cell, eI cI 2 (I_0u20 5)), (h_0_home, eI cI 4 (I_0u20 6)), (h_0_waste, eI cI 8 (I_0u20 7)), (h_0_stock, eI cI 8 (I_0u20 8)), (h_0_past, eJ cJ 1616 (L_0 1)), (h_0_start, eJ cJ 8 (L_0 2)), (h_0_known, eJ cJ 3216 (L_0 3)), (h_0_sorted, eJ cJ 3216 (L_0 4)), (h_0_row, eI cI 16 (I_0u20 9)), (h_0_best, eJ cJ 8 (L_0 5))]) hx hb hts inX6 tyX6 tyX6_ok nmX6 hown hK hS 0 21 rfl rfl (by decide) q10 rfl rfl rfl (Nat.le_of_ble_eq_true rfl) dX6_load_122 (by rw [eI_0u20]; rfl) (fun H locs hS => ?_)
    refine lv_aload_n hx hb dX6_load_125 rfl (lv_at hl 1 rfl) ?_
    refine lv_lload_n hx hb dX6_load_126 rfl (lv_at hl 0 rfl) ?_
    refine lv_bipush (v := (nI 16)) hx hb dX6_load_127 (by decide) ?_
    refine lv_lushr hx hb dX6_load_129 rfl ?_
    refine lv_ldc2 (v := (lN 15)) hx hb hown q2 dX6_load_130 ?_
    refine lv_land hx hb dX6_load_133 ?_
    refine lv_l2i hx hb dX6_load_134 rfl ?_
    replace hF := bnd_e hF
    obtain ⟨I_0u21, eI_0u21, hF⟩ := hF
    refine r_put (w2 := [(h_0, oX6 h_0_of h_0_kept h_0_column h_0_size h_0_hidden h_0_cell h_0_home h_0_waste h_0_stock h_0_past h_0_start h_0_known h_0_sorted h_0_row h_0_best I_0u21), (h_0_of, eI cI 9 (I_0u21 1)), (h_0_kept, eI cI 9 (I_0u21 2)), (h_0_column, eJ cJ 5 (L_0 0)), (h_0_size, eI cI 5 (I_0u21 3)), (h_0_hidden, eI cI 5 (I_0u21 4)), (h_0_cell, eI cI 2 (I_0u21 5)), (h_0_home, eI cI 4 (I_0u21 6)), (h_0_waste, eI cI 8 (I_0u21 7)), (h_0_stock, eI cI 8 (I_0u21 8)), (h_0_past, eJ cJ 1616 (L_0 1)), (h_0_start, eJ cJ 8 (L_0 2)), (h_0_known, eJ cJ 3216 (L_0 3)), (h_0_sorted, eJ cJ 3216 (L_0 4)), (h_0_row, eI cI 16 (I_0u21 9)), (h_0_best, eJ cJ 8 (L_0 5))]) hx hb hts inX6 tyX6 tyX6_ok nmX6 hown hK hS 0 23 rfl rfl (by decide) q11 rfl rfl rfl (Nat.le_of_ble_eq_true rfl) dX6_load_135 (by rw [eI_0u21]; rfl) (fun H locs hS => ?_)
    refine lv_iconst (v := (nI 0)) hx hb dX6_load_138 (by decide) ?_
    refine lv_istore (lv' := [(5, .int (nI 0)), (3, .long x13), (0, .ref h_0), (1, .ref h_0_known), (2, .int v2)]) hx hb dX6_load_139 hl (by decide) rfl (fun ls hl => ?_)
    exact L141 FU I_0u21 L_0 v2 x13 (nI 0) _ _ _ hS (lv_sub hl [2, 3, 4, 1, 0] rfl) hF
  have S2 : ∀ (K2 : (Nat → Nat → Int32) → (Nat → Nat → Int64) → Int32 → Int32 → Option ((Nat → Nat → Int32) × (Nat → Nat → Int64))) (_ : ∀ (I_0 : Nat → Nat → Int32) (L_0 : Nat → Nat → Int64) (v2 : Int32) (v3 : Int32) (H : Heap) (locs : List Loc) (ls : Array Slot), HS D A H0 [(h_0, oX6 h_0_of h_0_kept h_0_column h_0_size h_0_hidden h_0_cell h_0_home h_0_waste h_0_stock h_0_past h_0_start h_0_known h_0_sorted h_0_row h_0_best I_0), (h_0_of, eI cI 9 (I_0 1)), (h_0_kept, eI cI 9 (I_0 2)), (h_0_column, eJ cJ 5 (L_0 0)), (h_0_size, eI cI 5 (I_0 3)), (h_0_hidden, eI cI 5 (I_0 4)), (h_0_cell, eI cI 2 (I_0 5)), (h_0_home, eI cI 4 (I_0 6)), (h_0_waste, eI cI 8 (I_0 7)), (h_0_stock, eI cI 8 (I_0 8)), (h_0_past, eJ cJ 1616 (L_0 1)), (h_0_start, eJ cJ 8 (L_0 2)), (h_0_known, eJ cJ 3216 (L_0 3)), (h_0_sorted, eJ cJ 3216 (L_0 4)), (h_0_row, eI cI 16 (I_0 9)), (h_0_best, eJ cJ 8 (L_0 5))] H locs → lv_has ls 6 [(0, .ref h_0), (1, .ref h_0_known), (2, .int v2), (3, .int v3)] → K2 I_0 L_0 v2 v3 = some (r_I_0, r_L_0) → W p l e ({ frames := 0, cells := 0, slots := 0, locals := 0 } : Room) s m args below meth c H locs 0 0 Q (F0 m 2 ls [])) (I_0 : Nat → Nat → Int32) (L_0 : Nat → Nat → Int64) (v2 : Int32) (v3 : Int32) (H : Heap) (locs : List Loc) (ls : Array Slot), HS D A H0 [(h_0, oX6 h_0_of h_0_kept h_0_column h_0_size h_0_hidden h_0_cell h_0_home h_0_waste h_0_stock h_0_past h_0_start h_0_known h_0_sorted h_0_row h_0_best I_0), (h_0_of, eI cI 9 (I_0 1)), (h_0_kept, eI cI 9 (I_0 2)), (h_0_column, eJ cJ 5 (L_0 0)), (h_0_size, eI cI 5 (I_0 3)), (h_0_hidden, eI cI 5 (I_0 4)), (h_0_cell, eI cI 2 (I_0 5)), (h_0_home, eI cI 4 (I_0 6)), (h_0_waste, eI cI 8 (I_0 7)), (h_0_stock, eI cI 8 (I_0 8)), (h_0_past, eJ cJ 1616 (L_0 1)), (h_0_start, eJ cJ 8 (L_0 2)), (h_0_known, eJ cJ 3216 (L_0 3)), (h_0_sorted, eJ cJ 3216 (L_0 4)), (h_0_row, eI cI 16 (I_0 9)), (h_0_best, eJ cJ 8 (L_0 5))] H locs → lv_has ls 6 [(0, .ref h_0), (1, .ref h_0_known), (2, .int v2), (3, .int v3)] → F_X6_load_s2 3 3216 K2 I_0 L_0 v2 v3 = some (r_I_0, r_L_0) → W p l e ({ frames := 0, cells := 0, slots := 0, locals := 0 } : Room) s m args below meth c H locs 0 0 Q (F0 m 2 ls []) := by
    intro K2 hK2 I_0 L_0 v2 v3 H locs ls hS hl hF
    unfold F_X6_load_s2 at hF
    refine lv_iload_n hx hb dX6_load_2 rfl (lv_at hl 3 rfl) ?_
    refine lv_iconst (v := (nI 5)) hx hb dX6_load_3 (by decide) ?_
    refine lv_icmp_ge (tgt := 62) hx hb dX6_load_4 (by decide) (fun c_22 => ?_) (fun c_22 => ?_)
    · replace hF := ifp hF c_22
      exact B62 I_0 L_0 v2 _ _ _ hS (lv_sub hl [0, 1, 2] rfl) hF
    · replace hF := ifn hF c_22
      refine lv_aload_n hx hb dX6_load_7 rfl (lv_at hl 0 rfl) ?_
      refine r_get hx hb hts inX6 hown hK hS 0 15 rfl rfl (by decide) q12 rfl dX6_load_8 ?_
      refine lv_iload_n hx hb dX6_load_11 rfl (lv_at hl 3 rfl) ?_
      refine lv_aload_n hx hb dX6_load_12 rfl (lv_at hl 1 rfl) ?_
      refine lv_iload_n hx hb dX6_load_13 rfl (lv_at hl 2 rfl) ?_
      refine lv_iload_n hx hb dX6_load_14 rfl (lv_at hl 3 rfl) ?_
      refine lv_iadd hx hb dX6_load_15 ?_
      replace hF := rdA_e hF
      obtain ⟨hi24, x23, ex23, hF⟩ := hF
      refine r_lald hx hb hK hS 12 rfl rfl hi24 dX6_load_16 ex23 ?_
      replace hF := wrJ_e hF
      obtain ⟨hi26, L_0u25, eL_0u25, hF⟩ := hF
      refine r_last (w2 := [(h_0, oX6 h_0_of h_0_kept h_0_column h_0_size h_0_hidden h_0_cell h_0_home h_0_waste h_0_stock h_0_past h_0_start h_0_known h_0_sorted h_0_row h_0_best I_0), (h_0_of, eI cI 9 (I_0 1)), (h_0_kept, eI cI 9 (I_0 2)), (h_0_column, eJ cJ 5 (L_0u25 0)), (h_0_size, eI cI 5 (I_0 3)), (h_0_hidden, eI cI 5 (I_0 4)), (h_0_cell, eI cI 2 (I_0 5)), (h_0_home, eI cI 4 (I_0 6)), (h_0_waste, eI cI 8 (I_0 7)), (h_0_stock, eI cI 8 (I_0 8)), (h_0_past, eJ cJ 1616 (L_0u25 1)), (h_0_start, eJ cJ 8 (L_0u25 2)), (h_0_known, eJ cJ 3216 (L_0u25 3)), (h_0_sorted, eJ cJ 3216 (L_0u25 4)), (h_0_row, eI cI 16 (I_0 9)), (h_0_best, eJ cJ 8 (L_0u25 5))]) hx hb hK hS 3 rfl rfl hi26 dX6_load_17 (by rw [eL_0u25]; rfl) (fun H locs hS => ?_)
      refine lv_aload_n hx hb dX6_load_18 rfl (lv_at hl 1 rfl) ?_
      refine lv_iload_n hx hb dX6_load_19 rfl (lv_at hl 2 rfl) ?_
      refine lv_iconst (v := (nI 5)) hx hb dX6_load_20 (by decide) ?_
      refine lv_iadd hx hb dX6_load_21 ?_
      replace hF := rdA_e hF
      obtain ⟨hi28, x27, ex27, hF⟩ := hF
      refine r_lald hx hb hK hS 12 rfl rfl hi28 dX6_load_22 ex27 ?_
      refine lv_bipush (v := (nI 10)) hx hb dX6_load_23 (by decide) ?_
      refine lv_iload_n hx hb dX6_load_25 rfl (lv_at hl 3 rfl) ?_
      refine lv_imul hx hb dX6_load_26 ?_
      refine lv_lushr hx hb dX6_load_27 rfl ?_
      refine lv_ldc2 (v := (lN 1023)) hx hb hown q13 dX6_load_28 ?_
      refine lv_land hx hb dX6_load_31 ?_
      refine lv_l2i hx hb dX6_load_32 rfl ?_
      refine lv_istore (lv' := [(4, .int (((((x27.toUInt64 >>> ((((nI 10) * v3) : Int32).toInt64.toUInt64 &&& Int64.toUInt64 63)).toInt64) &&& (lN 1023)) : Int64).toInt32)), (0, .ref h_0), (1, .ref h_0_known), (2, .int v2), (3, .int v3)]) hx hb dX6_load_33 hl (by decide) rfl (fun ls hl => ?_)
      refine lv_aload_n hx hb dX6_load_35 rfl (lv_at hl 1 rfl) ?_
      refine r_get hx hb hts inX6 hown hK hS 0 16 rfl rfl (by decide) q14 rfl dX6_load_36 ?_
      refine lv_iload_n hx hb dX6_load_39 rfl (lv_at hl 4 rfl) ?_
      refine lv_iload hx hb dX6_load_40 (lv_at hl 0 rfl) ?_
      refine lv_bipush (v := (nI 31)) hx hb dX6_load_42 (by decide) ?_
      refine lv_iand hx hb dX6_load_44 ?_
      replace hF := wrA_e hF
      obtain ⟨hi30, I_0u29, eI_0u29, hF⟩ := hF
      refine r_iast (w2 := [(h_0, oX6 h_0_of h_0_kept h_0_column h_0_size h_0_hidden h_0_cell h_0_home h_0_waste h_0_stock h_0_past h_0_start h_0_known h_0_sorted h_0_row h_0_best I_0u29), (h_0_of, eI cI 9 (I_0u29 1)), (h_0_kept, eI cI 9 (I_0u29 2)), (h_0_column, eJ cJ 5 (L_0u25 0)), (h_0_size, eI cI 5 (I_0u29 3)), (h_0_hidden, eI cI 5 (I_0u29 4)), (h_0_cell, eI cI 2 (I_0u29 5)), (h_0_home, eI cI 4 (I_0u29 6)), (h_0_waste, eI cI 8 (I_0u29 7)), (h_0_stock, eI cI 8 (I_0u29 8)), (h_0_past, eJ cJ 1616 (L_0u25 1)), (h_0_start, eJ cJ 8 (L_0u25 2)), (h_0_known, eJ cJ 3216 (L_0u25 3)), (h_0_sorted, eJ cJ 3216 (L_0u25 4)), (h_0_row, eI cI 16 (I_0u29 9)), (h_0_best, eJ cJ 8 (L_0u25 5))]) hx hb hK hS 4 rfl rfl hi30 dX6_load_45 (by rw [eI_0u29]; rfl) (fun H locs hS => ?_)
      refine lv_aload_n hx hb dX6_load_46 rfl (lv_at hl 1 rfl) ?_
      refine r_get hx hb hts inX6 hown hK hS 0 17 rfl rfl (by decide) q15 rfl dX6_load_47 ?_
      refine lv_iload_n hx hb dX6_load_50 rfl (lv_at hl 4 rfl) ?_
      refine lv_iload hx hb dX6_load_51 (lv_at hl 0 rfl) ?_
      refine lv_iconst (v := (nI 5)) hx hb dX6_load_53 (by decide) ?_
      refine lv_ishr hx hb dX6_load_54 ?_
      replace hF := wrA_e hF
      obtain ⟨hi32, I_0u31, eI_0u31, hF⟩ := hF
      refine r_iast (w2 := [(h_0, oX6 h_0_of h_0_kept h_0_column h_0_size h_0_hidden h_0_cell h_0_home h_0_waste h_0_stock h_0_past h_0_start h_0_known h_0_sorted h_0_row h_0_best I_0u31), (h_0_of, eI cI 9 (I_0u31 1)), (h_0_kept, eI cI 9 (I_0u31 2)), (h_0_column, eJ cJ 5 (L_0u25 0)), (h_0_size, eI cI 5 (I_0u31 3)), (h_0_hidden, eI cI 5 (I_0u31 4)), (h_0_cell, eI cI 2 (I_0u31 5)), (h_0_home, eI cI 4 (I_0u31 6)), (h_0_waste, eI cI 8 (I_0u31 7)), (h_0_stock, eI cI 8 (I_0u31 8)), (h_0_past, eJ cJ 1616 (L_0u25 1)), (h_0_start, eJ cJ 8 (L_0u25 2)), (h_0_known, eJ cJ 3216 (L_0u25 3)), (h_0_sorted, eJ cJ 3216 (L_0u25 4)), (h_0_row, eI cI 16 (I_0u31 9)), (h_0_best, eJ cJ 8 (L_0u25 5))]) hx hb hK hS 5 rfl rfl hi32 dX6_load_55 (by rw [eI_0u31]; rfl) (fun H locs hS => ?_)
      refine lv_iinc (v := v3 + (nI 1)) (lv' := [(3, .int (v3 + (nI 1))), (4, .int (((((x27.toUInt64 >>> ((((nI 10) * v3) : Int32).toInt64.toUInt64 &&& Int64.toUInt64 63)).toInt64) &&& (lN 1023)) : Int64).toInt32)), (0, .ref h_0), (1, .ref h_0_known), (2, .int v2)]) hx hb dX6_load_56 hl (k := 4) rfl rfl (by decide) rfl (fun ls hl => ?_)
      refine lv_goto (tgt := 2) hx hb dX6_load_59 (by decide) ?_
      exact hK2 I_0u31 L_0u25 v2 (v3 + (nI 1)) _ _ _ hS (lv_sub hl [2, 3, 4, 0] rfl) hF
  have L2 : ∀  (n : Nat) (I_0 : Nat → Nat → Int32) (L_0 : Nat → Nat → Int64) (v2 : Int32) (v3 : Int32) (H : Heap) (locs : List Loc) (ls : Array Slot), HS D A H0 [(h_0, oX6 h_0_of h_0_kept h_0_column h_0_size h_0_hidden h_0_cell h_0_home h_0_waste h_0_stock h_0_past h_0_start h_0_known h_0_sorted h_0_row h_0_best I_0), (h_0_of, eI cI 9 (I_0 1)), (h_0_kept, eI cI 9 (I_0 2)), (h_0_column, eJ cJ 5 (L_0 0)), (h_0_size, eI cI 5 (I_0 3)), (h_0_hidden, eI cI 5 (I_0 4)), (h_0_cell, eI cI 2 (I_0 5)), (h_0_home, eI cI 4 (I_0 6)), (h_0_waste, eI cI 8 (I_0 7)), (h_0_stock, eI cI 8 (I_0 8)), (h_0_past, eJ cJ 1616 (L_0 1)), (h_0_start, eJ cJ 8 (L_0 2)), (h_0_known, eJ cJ 3216 (L_0 3)), (h_0_sorted, eJ cJ 3216 (L_0 4)), (h_0_row, eI cI 16 (I_0 9)), (h_0_best, eJ cJ 8 (L_0 5))] H locs → lv_has ls 6 [(0, .ref h_0), (1, .ref h_0_known), (2, .int v2), (3, .int v3)] → F_X6_load_L2 3 3216  n I_0 L_0 v2 v3 = some (r_I_0, r_L_0) → W p l e ({ frames := 0, cells := 0, slots := 0, locals := 0 } : Room) s m args below meth c H locs 0 0 Q (F0 m 2 ls []) := by
    intro  n
    induction n with
    | zero => intro I_0 L_0 v2 v3 H locs ls hS hl hF; exact nomatch (show (none : Option ((Nat → Nat → Int32) × (Nat → Nat → Int64))) = some _ from hF)
    | succ n ih => intro I_0 L_0 v2 v3 H locs ls hS hl hF; exact S2  _ ih I_0 L_0 v2 v3 H locs ls hS hl hF
  unfold F_X6_load at hF
  refine lv_iconst (v := (nI 0)) hx hb dX6_load_0 (by decide) ?_
  refine lv_istore_n (lv' := [(3, .int (nI 0)), (0, .ref h_0), (1, .ref h_0_known), (2, .int v2)]) hx hb dX6_load_1 rfl hl (by decide) rfl (fun ls hl => ?_)
  exact L2 FU I_0 L_0 v2 (nI 0) _ _ _ hS (lv_sub hl [1, 2, 3, 0] rfl) hF
set_option maxHeartbeats 4000000 in
set_option maxRecDepth 100000 in
theorem c_X6_numberOf (l : Launch) (D : va_G) (cI cJ : ClassId) (h_0 h_0_of h_0_kept h_0_column h_0_size h_0_hidden h_0_cell h_0_home h_0_waste h_0_stock h_0_past h_0_start h_0_known h_0_sorted h_0_row h_0_best : Nat) (I_0 : Nat → Nat → Int32) (L_0 : Nat → Nat → Int64) (v1 : Int32) (rv : Int32) (r_I_0 : Nat → Nat → Int32) (r_L_0 : Nat → Nat → Int64) (hF : F_X6_numberOf I_0 L_0 v1 = some (rv, r_I_0, r_L_0)) : CtI l D [(cI, .int), (cJ, .long)] yX6_numberOf wtX6_numberOf ({ frames := 2, cells := 0, slots := 0, locals := 51 } : Room) [.ref h_0, .int v1] [(h_0, oX6 h_0_of h_0_kept h_0_column h_0_size h_0_hidden h_0_cell h_0_home h_0_waste h_0_stock h_0_past h_0_start h_0_known h_0_sorted h_0_row h_0_best I_0), (h_0_of, eI cI 9 (I_0 1)), (h_0_kept, eI cI 9 (I_0 2)), (h_0_column, eJ cJ 5 (L_0 0)), (h_0_size, eI cI 5 (I_0 3)), (h_0_hidden, eI cI 5 (I_0 4)), (h_0_cell, eI cI 2 (I_0 5)), (h_0_home, eI cI 4 (I_0 6)), (h_0_waste, eI cI 8 (I_0 7)), (h_0_stock, eI cI 8 (I_0 8)), (h_0_past, eJ cJ 1616 (L_0 1)), (h_0_start, eJ cJ 8 (L_0 2)), (h_0_known, eJ cJ 3216 (L_0 3)), (h_0_sorted, eJ cJ 3216 (L_0 4)), (h_0_row, eI cI 16 (I_0 9)), (h_0_best, eJ cJ 8 (L_0 5))] [(h_0, oX6 h_0_of h_0_kept h_0_column h_0_size h_0_hidden h_0_cell h_0_home h_0_waste h_0_stock h_0_past h_0_start h_0_known h_0_sorted h_0_row h_0_best r_I_0), (h_0_of, eI cI 9 (r_I_0 1)), (h_0_kept, eI cI 9 (r_I_0 2)), (h_0_column, eJ cJ 5 (r_L_0 0)), (h_0_size, eI cI 5 (r_I_0 3)), (h_0_hidden, eI cI 5 (r_I_0 4)), (h_0_cell, eI cI 2 (r_I_0 5)), (h_0_home, eI cI 4 (r_I_0 6)), (h_0_waste, eI cI 8 (r_I_0 7)), (h_0_stock, eI cI 8 (r_I_0 8)), (h_0_past, eJ cJ 1616 (r_L_0 1)), (h_0_start, eJ cJ 8 (r_L_0 2)), (h_0_known, eJ cJ 3216 (r_L_0 3)), (h_0_sorted, eJ cJ 3216 (r_L_0 4)), (h_0_row, eI cI 16 (r_I_0 9)), (h_0_best, eJ cJ 8 (r_L_0 5))] rv := by
  refine CtI.of (cc := cX6_numberOf) (maxL := 6) (by decide) rfl (Nat.le_of_ble_eq_true rfl) ?_
  intro p e s m args below meth c A H0 Q ls X hS hl kret
  have hCF := X.1
  obtain ⟨⟨hx, hb, hml, hown, hts⟩, hK, hA⟩ := X
  have hl : lv_has ls 6 [(0, .ref h_0), (1, .int v1)] := hl
  have q0 := hts (.fieldLink RX6 57 "PatienceryModel" "start" "[J") (List.mem_cons_of_mem _ mw_171)
  have inX6 : ∀ w ∈ u_ws RX6 TX6 32, w ∈ wtX6_numberOf := fun w h => List.mem_cons_of_mem _ (inlX6 w h)
  have q2 := hts (.fieldLink RX6 60 "PatienceryModel" "known" "[J") (List.mem_cons_of_mem _ mw_172)
  have q3 := hts (.fieldLink RX6 54 "PatienceryModel" "past" "[J") (List.mem_cons_of_mem _ mw_170)
  have B123 : ∀ (I_0 : Nat → Nat → Int32) (L_0 : Nat → Nat → Int64) (v2 : Int32) (H : Heap) (locs : List Loc) (ls : Array Slot), HS D A H0 [(h_0, oX6 h_0_of h_0_kept h_0_column h_0_size h_0_hidden h_0_cell h_0_home h_0_waste h_0_stock h_0_past h_0_start h_0_known h_0_sorted h_0_row h_0_best I_0), (h_0_of, eI cI 9 (I_0 1)), (h_0_kept, eI cI 9 (I_0 2)), (h_0_column, eJ cJ 5 (L_0 0)), (h_0_size, eI cI 5 (I_0 3)), (h_0_hidden, eI cI 5 (I_0 4)), (h_0_cell, eI cI 2 (I_0 5)), (h_0_home, eI cI 4 (I_0 6)), (h_0_waste, eI cI 8 (I_0 7)), (h_0_stock, eI cI 8 (I_0 8)), (h_0_past, eJ cJ 1616 (L_0 1)), (h_0_start, eJ cJ 8 (L_0 2)), (h_0_known, eJ cJ 3216 (L_0 3)), (h_0_sorted, eJ cJ 3216 (L_0 4)), (h_0_row, eI cI 16 (I_0 9)), (h_0_best, eJ cJ 8 (L_0 5))] H locs → lv_has ls 6 [(0, .ref h_0), (2, .int v2)] → F_X6_numberOf_b123   I_0 L_0 v2 = some (rv, r_I_0, r_L_0) → W p l e ({ frames := 2, cells := 0, slots := 0, locals := 51 } : Room) s m args below meth c H locs 0 0 Q (F0 m 123 ls []) := by
    intro I_0 L_0 v2 H locs ls hS hl hF
    unfold F_X6_numberOf_b123 at hF
    refine lv_aload_n hx hb dX6_numberOf_123 rfl (lv_at hl 0 rfl) ?_
    refine lv_aload_n hx hb dX6_numberOf_124 rfl (lv_at hl 0 rfl) ?_
    refine r_get hx hb hts inX6 hown hK hS 0 26 rfl rfl (by decide) q0 rfl dX6_numberOf_125 ?_
    refine lv_iconst (v := (nI 0)) hx hb dX6_numberOf_128 (by decide) ?_
    replace hF := cal2_e hF
    obtain ⟨I_0u1, L_0u2, hc3, hF⟩ := hF
    refine kV_v (As := [.ref h_0_start, .int (nI 0)]) (rest := []) (wr := []) (w2 := [(h_0, oX6 h_0_of h_0_kept h_0_column h_0_size h_0_hidden h_0_cell h_0_home h_0_waste h_0_stock h_0_past h_0_start h_0_known h_0_sorted h_0_row h_0_best I_0u1), (h_0_of, eI cI 9 (I_0u1 1)), (h_0_kept, eI cI 9 (I_0u1 2)), (h_0_column, eJ cJ 5 (L_0u2 0)), (h_0_size, eI cI 5 (I_0u1 3)), (h_0_hidden, eI cI 5 (I_0u1 4)), (h_0_cell, eI cI 2 (I_0u1 5)), (h_0_home, eI cI 4 (I_0u1 6)), (h_0_waste, eI cI 8 (I_0u1 7)), (h_0_stock, eI cI 8 (I_0u1 8)), (h_0_past, eJ cJ 1616 (L_0u2 1)), (h_0_start, eJ cJ 8 (L_0u2 2)), (h_0_known, eJ cJ 3216 (L_0u2 3)), (h_0_sorted, eJ cJ 3216 (L_0u2 4)), (h_0_row, eI cI 16 (I_0u1 9)), (h_0_best, eJ cJ 8 (L_0u2 5))]) hCF hK (c_X6_load_start l D cI cJ h_0 h_0_of h_0_kept h_0_column h_0_size h_0_hidden h_0_cell h_0_home h_0_waste h_0_stock h_0_past h_0_start h_0_known h_0_sorted h_0_row h_0_best I_0 L_0 (nI 0) I_0u1 L_0u2 hc3) (cwV 2 hts (TBL_V mw_331 mw_332 mw_333 mw_5 mw_334) rfl rfl rfl pmX6_load ⟨Nat.le_of_ble_eq_true rfl, Nat.le_of_ble_eq_true rfl⟩) hS hA [0, 1, 2, 3, 4, 5, 6, 7, 8, 9, 10, 11, 12, 13, 14, 15] [] rfl rfl rfl rfl (by decide) rfl rfl rfl hl.1 rfl (Nat.le_of_ble_eq_true rfl) ⟨Nat.zero_le _, Nat.zero_le _⟩ dX6_numberOf_129 rfl (fun H locs hS => ?_)
    refine lv_iload_n hx hb dX6_numberOf_132 rfl (lv_at hl 1 rfl) ?_
    have e9_0 := Option.some.inj hF
    obtain ⟨f9_0, e9_1⟩ := Prod.mk.inj e9_0
    obtain ⟨f9_1, e9_2⟩ := Prod.mk.inj e9_1
    subst f9_0
    subst f9_1
    subst e9_2
    exact kret _ _ _ _ hS dX6_numberOf_133
  have B106 : ∀ (K38 : (Nat → Nat → Int32) → (Nat → Nat → Int64) → Int32 → Int32 → Int32 → Option (Int32 × (Nat → Nat → Int32) × (Nat → Nat → Int64))) (_ : ∀ (I_0 : Nat → Nat → Int32) (L_0 : Nat → Nat → Int64) (v1 : Int32) (v2 : Int32) (v3 : Int32) (H : Heap) (locs : List Loc) (ls : Array Slot), HS D A H0 [(h_0, oX6 h_0_of h_0_kept h_0_column h_0_size h_0_hidden h_0_cell h_0_home h_0_waste h_0_stock h_0_past h_0_start h_0_known h_0_sorted h_0_row h_0_best I_0), (h_0_of, eI cI 9 (I_0 1)), (h_0_kept, eI cI 9 (I_0 2)), (h_0_column, eJ cJ 5 (L_0 0)), (h_0_size, eI cI 5 (I_0 3)), (h_0_hidden, eI cI 5 (I_0 4)), (h_0_cell, eI cI 2 (I_0 5)), (h_0_home, eI cI 4 (I_0 6)), (h_0_waste, eI cI 8 (I_0 7)), (h_0_stock, eI cI 8 (I_0 8)), (h_0_past, eJ cJ 1616 (L_0 1)), (h_0_start, eJ cJ 8 (L_0 2)), (h_0_known, eJ cJ 3216 (L_0 3)), (h_0_sorted, eJ cJ 3216 (L_0 4)), (h_0_row, eI cI 16 (I_0 9)), (h_0_best, eJ cJ 8 (L_0 5))] H locs → lv_has ls 6 [(0, .ref h_0), (1, .int v1), (2, .int v2), (3, .int v3)] → K38 I_0 L_0 v1 v2 v3 = some (rv, r_I_0, r_L_0) → W p l e ({ frames := 2, cells := 0, slots := 0, locals := 51 } : Room) s m args below meth c H locs 0 0 Q (F0 m 38 ls [])) (I_0 : Nat → Nat → Int32) (L_0 : Nat → Nat → Int64) (v1 : Int32) (v2 : Int32) (v3 : Int32) (v4 : Int32) (H : Heap) (locs : List Loc) (ls : Array Slot), HS D A H0 [(h_0, oX6 h_0_of h_0_kept h_0_column h_0_size h_0_hidden h_0_cell h_0_home h_0_waste h_0_stock h_0_past h_0_start h_0_known h_0_sorted h_0_row h_0_best I_0), (h_0_of, eI cI 9 (I_0 1)), (h_0_kept, eI cI 9 (I_0 2)), (h_0_column, eJ cJ 5 (L_0 0)), (h_0_size, eI cI 5 (I_0 3)), (h_0_hidden, eI cI 5 (I_0 4)), (h_0_cell, eI cI 2 (I_0 5)), (h_0_home, eI cI 4 (I_0 6)), (h_0_waste, eI cI 8 (I_0 7)), (h_0_stock, eI cI 8 (I_0 8)), (h_0_past, eJ cJ 1616 (L_0 1)), (h_0_start, eJ cJ 8 (L_0 2)), (h_0_known, eJ cJ 3216 (L_0 3)), (h_0_sorted, eJ cJ 3216 (L_0 4)), (h_0_row, eI cI 16 (I_0 9)), (h_0_best, eJ cJ 8 (L_0 5))] H locs → lv_has ls 6 [(0, .ref h_0), (1, .int v1), (2, .int v2), (3, .int v3), (4, .int v4)] → F_X6_numberOf_b106  K38 I_0 L_0 v1 v2 v3 v4 = some (rv, r_I_0, r_L_0) → W p l e ({ frames := 2, cells := 0, slots := 0, locals := 51 } : Room) s m args below meth c H locs 0 0 Q (F0 m 106 ls []) := by
    intro K38 hK38 I_0 L_0 v1 v2 v3 v4 H locs ls hS hl hF
    unfold F_X6_numberOf_b106 at hF
    refine lv_iload hx hb dX6_numberOf_106 (lv_at hl 4 rfl) ?_
    refine lv_if_eq (tgt := 115) hx hb dX6_numberOf_108 (by decide) (fun c_4 => ?_) (fun c_4 => ?_)
    · replace hF := ifp hF c_4
      refine lv_iload_n hx hb dX6_numberOf_115 rfl (lv_at hl 2 rfl) ?_
      refine lv_istore_n (lv' := [(2, .int v2), (0, .ref h_0), (1, .int v1), (3, .int v3), (4, .int v4)]) hx hb dX6_numberOf_116 rfl hl (by decide) rfl (fun ls hl => ?_)
      refine lv_iinc (v := v3 + (-1)) (lv' := [(3, .int (v3 + (-1))), (2, .int v2), (0, .ref h_0), (1, .int v1), (4, .int v4)]) hx hb dX6_numberOf_117 hl (k := 3) rfl rfl (by decide) rfl (fun ls hl => ?_)
      refine lv_goto (tgt := 38) hx hb dX6_numberOf_120 (by decide) ?_
      exact hK38 I_0 L_0 v1 v2 (v3 + (-1)) _ _ _ hS (lv_sub hl [2, 3, 1, 0] rfl) hF
    · replace hF := ifn hF c_4
      refine lv_iload_n hx hb dX6_numberOf_111 rfl (lv_at hl 3 rfl) ?_
      refine lv_goto (tgt := 116) hx hb dX6_numberOf_112 (by decide) ?_
      refine lv_istore_n (lv' := [(2, .int v3), (0, .ref h_0), (1, .int v1), (3, .int v3), (4, .int v4)]) hx hb dX6_numberOf_116 rfl hl (by decide) rfl (fun ls hl => ?_)
      refine lv_iinc (v := v3 + (-1)) (lv' := [(3, .int (v3 + (-1))), (2, .int v3), (0, .ref h_0), (1, .int v1), (4, .int v4)]) hx hb dX6_numberOf_117 hl (k := 3) rfl rfl (by decide) rfl (fun ls hl => ?_)
      refine lv_goto (tgt := 38) hx hb dX6_numberOf_120 (by decide) ?_
      exact hK38 I_0 L_0 v1 v3 (v3 + (-1)) _ _ _ hS (lv_sub hl [2, 3, 1, 0] rfl) hF
  have S63 : ∀ (K38 : (Nat → Nat → Int32) → (Nat → Nat → Int64) → Int32 → Int32 → Int32 → Option (Int32 × (Nat → Nat → Int32) × (Nat → Nat → Int64))) (_ : ∀ (I_0 : Nat → Nat → Int32) (L_0 : Nat → Nat → Int64) (v1 : Int32) (v2 : Int32) (v3 : Int32) (H : Heap) (locs : List Loc) (ls : Array Slot), HS D A H0 [(h_0, oX6 h_0_of h_0_kept h_0_column h_0_size h_0_hidden h_0_cell h_0_home h_0_waste h_0_stock h_0_past h_0_start h_0_known h_0_sorted h_0_row h_0_best I_0), (h_0_of, eI cI 9 (I_0 1)), (h_0_kept, eI cI 9 (I_0 2)), (h_0_column, eJ cJ 5 (L_0 0)), (h_0_size, eI cI 5 (I_0 3)), (h_0_hidden, eI cI 5 (I_0 4)), (h_0_cell, eI cI 2 (I_0 5)), (h_0_home, eI cI 4 (I_0 6)), (h_0_waste, eI cI 8 (I_0 7)), (h_0_stock, eI cI 8 (I_0 8)), (h_0_past, eJ cJ 1616 (L_0 1)), (h_0_start, eJ cJ 8 (L_0 2)), (h_0_known, eJ cJ 3216 (L_0 3)), (h_0_sorted, eJ cJ 3216 (L_0 4)), (h_0_row, eI cI 16 (I_0 9)), (h_0_best, eJ cJ 8 (L_0 5))] H locs → lv_has ls 6 [(0, .ref h_0), (1, .int v1), (2, .int v2), (3, .int v3)] → K38 I_0 L_0 v1 v2 v3 = some (rv, r_I_0, r_L_0) → W p l e ({ frames := 2, cells := 0, slots := 0, locals := 51 } : Room) s m args below meth c H locs 0 0 Q (F0 m 38 ls [])) (K63 : (Nat → Nat → Int32) → (Nat → Nat → Int64) → Int32 → Int32 → Int32 → Int32 → Int32 → Option (Int32 × (Nat → Nat → Int32) × (Nat → Nat → Int64))) (_ : ∀ (I_0 : Nat → Nat → Int32) (L_0 : Nat → Nat → Int64) (v1 : Int32) (v2 : Int32) (v3 : Int32) (v4 : Int32) (v5 : Int32) (H : Heap) (locs : List Loc) (ls : Array Slot), HS D A H0 [(h_0, oX6 h_0_of h_0_kept h_0_column h_0_size h_0_hidden h_0_cell h_0_home h_0_waste h_0_stock h_0_past h_0_start h_0_known h_0_sorted h_0_row h_0_best I_0), (h_0_of, eI cI 9 (I_0 1)), (h_0_kept, eI cI 9 (I_0 2)), (h_0_column, eJ cJ 5 (L_0 0)), (h_0_size, eI cI 5 (I_0 3)), (h_0_hidden, eI cI 5 (I_0 4)), (h_0_cell, eI cI 2 (I_0 5)), (h_0_home, eI cI 4 (I_0 6)), (h_0_waste, eI cI 8 (I_0 7)), (h_0_stock, eI cI 8 (I_0 8)), (h_0_past, eJ cJ 1616 (L_0 1)), (h_0_start, eJ cJ 8 (L_0 2)), (h_0_known, eJ cJ 3216 (L_0 3)), (h_0_sorted, eJ cJ 3216 (L_0 4)), (h_0_row, eI cI 16 (I_0 9)), (h_0_best, eJ cJ 8 (L_0 5))] H locs → lv_has ls 6 [(0, .ref h_0), (1, .int v1), (2, .int v2), (3, .int v3), (4, .int v4), (5, .int v5)] → K63 I_0 L_0 v1 v2 v3 v4 v5 = some (rv, r_I_0, r_L_0) → W p l e ({ frames := 2, cells := 0, slots := 0, locals := 51 } : Room) s m args below meth c H locs 0 0 Q (F0 m 63 ls [])) (I_0 : Nat → Nat → Int32) (L_0 : Nat → Nat → Int64) (v1 : Int32) (v2 : Int32) (v3 : Int32) (v4 : Int32) (v5 : Int32) (H : Heap) (locs : List Loc) (ls : Array Slot), HS D A H0 [(h_0, oX6 h_0_of h_0_kept h_0_column h_0_size h_0_hidden h_0_cell h_0_home h_0_waste h_0_stock h_0_past h_0_start h_0_known h_0_sorted h_0_row h_0_best I_0), (h_0_of, eI cI 9 (I_0 1)), (h_0_kept, eI cI 9 (I_0 2)), (h_0_column, eJ cJ 5 (L_0 0)), (h_0_size, eI cI 5 (I_0 3)), (h_0_hidden, eI cI 5 (I_0 4)), (h_0_cell, eI cI 2 (I_0 5)), (h_0_home, eI cI 4 (I_0 6)), (h_0_waste, eI cI 8 (I_0 7)), (h_0_stock, eI cI 8 (I_0 8)), (h_0_past, eJ cJ 1616 (L_0 1)), (h_0_start, eJ cJ 8 (L_0 2)), (h_0_known, eJ cJ 3216 (L_0 3)), (h_0_sorted, eJ cJ 3216 (L_0 4)), (h_0_row, eI cI 16 (I_0 9)), (h_0_best, eJ cJ 8 (L_0 5))] H locs → lv_has ls 6 [(0, .ref h_0), (1, .int v1), (2, .int v2), (3, .int v3), (4, .int v4), (5, .int v5)] → F_X6_numberOf_s63  K38 K63 I_0 L_0 v1 v2 v3 v4 v5 = some (rv, r_I_0, r_L_0) → W p l e ({ frames := 2, cells := 0, slots := 0, locals := 51 } : Room) s m args below meth c H locs 0 0 Q (F0 m 63 ls []) := by
    intro K38 hK38 K63 hK63 I_0 L_0 v1 v2 v3 v4 v5 H locs ls hS hl hF
    unfold F_X6_numberOf_s63 at hF
    refine lv_iload hx hb dX6_numberOf_63 (lv_at hl 5 rfl) ?_
    refine lv_bipush (v := (nI 8)) hx hb dX6_numberOf_65 (by decide) ?_
    refine lv_icmp_ge (tgt := 106) hx hb dX6_numberOf_67 (by decide) (fun c_5 => ?_) (fun c_5 => ?_)
    · replace hF := ifp hF c_5
      exact B106 K38 hK38 I_0 L_0 v1 v2 v3 v4 _ _ _ hS (lv_sub hl [0, 1, 2, 3, 4] rfl) hF
    · replace hF := ifn hF c_5
      refine lv_iload hx hb dX6_numberOf_70 (lv_at hl 4 rfl) ?_
      refine lv_if_eq (tgt := 97) hx hb dX6_numberOf_72 (by decide) (fun c_6 => ?_) (fun c_6 => ?_)
      · replace hF := ifp hF c_6
        refine lv_iconst (v := (nI 0)) hx hb dX6_numberOf_97 (by decide) ?_
        refine lv_istore (lv' := [(4, .int (nI 0)), (0, .ref h_0), (1, .int v1), (2, .int v2), (3, .int v3), (5, .int v5)]) hx hb dX6_numberOf_98 hl (by decide) rfl (fun ls hl => ?_)
        refine lv_iinc (v := v5 + (nI 1)) (lv' := [(5, .int (v5 + (nI 1))), (4, .int (nI 0)), (0, .ref h_0), (1, .int v1), (2, .int v2), (3, .int v3)]) hx hb dX6_numberOf_100 hl (k := 5) rfl rfl (by decide) rfl (fun ls hl => ?_)
        refine lv_goto (tgt := 63) hx hb dX6_numberOf_103 (by decide) ?_
        exact hK63 I_0 L_0 v1 v2 v3 (nI 0) (v5 + (nI 1)) _ _ _ hS (lv_sub hl [2, 3, 4, 5, 1, 0] rfl) hF
      · replace hF := ifn hF c_6
        refine lv_aload_n hx hb dX6_numberOf_75 rfl (lv_at hl 0 rfl) ?_
        refine r_get hx hb hts inX6 hown hK hS 0 27 rfl rfl (by decide) q2 rfl dX6_numberOf_76 ?_
        refine lv_iload hx hb dX6_numberOf_79 (lv_at hl 5 rfl) ?_
        replace hF := rdA_e hF
        obtain ⟨hi8, x7, ex7, hF⟩ := hF
        refine r_lald hx hb hK hS 12 rfl rfl hi8 dX6_numberOf_81 ex7 ?_
        refine lv_aload_n hx hb dX6_numberOf_82 rfl (lv_at hl 0 rfl) ?_
        refine r_get hx hb hts inX6 hown hK hS 0 25 rfl rfl (by decide) q3 rfl dX6_numberOf_83 ?_
        refine lv_iload hx hb dX6_numberOf_86 (lv_at hl 5 rfl) ?_
        replace hF := rdA_e hF
        obtain ⟨hi10, x9, ex9, hF⟩ := hF
        refine r_lald hx hb hK hS 10 rfl rfl hi10 dX6_numberOf_88 ex9 ?_
        refine W.lcmp hx hb dX6_numberOf_89 ?_
        refine lv_if_ne (tgt := 97) hx hb dX6_numberOf_90 (by decide) (fun c_11 => ?_) (fun c_11 => ?_)
        · replace hF := ifn hF c_11
          refine lv_iconst (v := (nI 0)) hx hb dX6_numberOf_97 (by decide) ?_
          refine lv_istore (lv' := [(4, .int (nI 0)), (0, .ref h_0), (1, .int v1), (2, .int v2), (3, .int v3), (5, .int v5)]) hx hb dX6_numberOf_98 hl (by decide) rfl (fun ls hl => ?_)
          refine lv_iinc (v := v5 + (nI 1)) (lv' := [(5, .int (v5 + (nI 1))), (4, .int (nI 0)), (0, .ref h_0), (1, .int v1), (2, .int v2), (3, .int v3)]) hx hb dX6_numberOf_100 hl (k := 5) rfl rfl (by decide) rfl (fun ls hl => ?_)
          refine lv_goto (tgt := 63) hx hb dX6_numberOf_103 (by decide) ?_
          exact hK63 I_0 L_0 v1 v2 v3 (nI 0) (v5 + (nI 1)) _ _ _ hS (lv_sub hl [2, 3, 4, 5, 1, 0] rfl) hF
        · replace hF := ifp hF c_11
          refine lv_iconst (v := (nI 1)) hx hb dX6_numberOf_93 (by decide) ?_
          refine lv_goto (tgt := 98) hx hb dX6_numberOf_94 (by decide) ?_
          refine lv_istore (lv' := [(4, .int (nI 1)), (0, .ref h_0), (1, .int v1), (2, .int v2), (3, .int v3), (5, .int v5)]) hx hb dX6_numberOf_98 hl (by decide) rfl (fun ls hl => ?_)
          refine lv_iinc (v := v5 + (nI 1)) (lv' := [(5, .int (v5 + (nI 1))), (4, .int (nI 1)), (0, .ref h_0), (1, .int v1), (2, .int v2), (3, .int v3)]) hx hb dX6_numberOf_100 hl (k := 5) rfl rfl (by decide) rfl (fun ls hl => ?_)
          refine lv_goto (tgt := 63) hx hb dX6_numberOf_103 (by decide) ?_
          exact hK63 I_0 L_0 v1 v2 v3 (nI 1) (v5 + (nI 1)) _ _ _ hS (lv_sub hl [2, 3, 4, 5, 1, 0] rfl) hF
  have L63 : ∀ (K38 : (Nat → Nat → Int32) → (Nat → Nat → Int64) → Int32 → Int32 → Int32 → Option (Int32 × (Nat → Nat → Int32) × (Nat → Nat → Int64))) (_ : ∀ (I_0 : Nat → Nat → Int32) (L_0 : Nat → Nat → Int64) (v1 : Int32) (v2 : Int32) (v3 : Int32) (H : Heap) (locs : List Loc) (ls : Array Slot), HS D A H0 [(h_0, oX6 h_0_of h_0_kept h_0_column h_0_size h_0_hidden h_0_cell h_0_home h_0_waste h_0_stock h_0_past h_0_start h_0_known h_0_sorted h_0_row h_0_best I_0), (h_0_of, eI cI 9 (I_0 1)), (h_0_kept, eI cI 9 (I_0 2)), (h_0_column, eJ cJ 5 (L_0 0)), (h_0_size, eI cI 5 (I_0 3)), (h_0_hidden, eI cI 5 (I_0 4)), (h_0_cell, eI cI 2 (I_0 5)), (h_0_home, eI cI 4 (I_0 6)), (h_0_waste, eI cI 8 (I_0 7)), (h_0_stock, eI cI 8 (I_0 8)), (h_0_past, eJ cJ 1616 (L_0 1)), (h_0_start, eJ cJ 8 (L_0 2)), (h_0_known, eJ cJ 3216 (L_0 3)), (h_0_sorted, eJ cJ 3216 (L_0 4)), (h_0_row, eI cI 16 (I_0 9)), (h_0_best, eJ cJ 8 (L_0 5))] H locs → lv_has ls 6 [(0, .ref h_0), (1, .int v1), (2, .int v2), (3, .int v3)] → K38 I_0 L_0 v1 v2 v3 = some (rv, r_I_0, r_L_0) → W p l e ({ frames := 2, cells := 0, slots := 0, locals := 51 } : Room) s m args below meth c H locs 0 0 Q (F0 m 38 ls [])) (n : Nat) (I_0 : Nat → Nat → Int32) (L_0 : Nat → Nat → Int64) (v1 : Int32) (v2 : Int32) (v3 : Int32) (v4 : Int32) (v5 : Int32) (H : Heap) (locs : List Loc) (ls : Array Slot), HS D A H0 [(h_0, oX6 h_0_of h_0_kept h_0_column h_0_size h_0_hidden h_0_cell h_0_home h_0_waste h_0_stock h_0_past h_0_start h_0_known h_0_sorted h_0_row h_0_best I_0), (h_0_of, eI cI 9 (I_0 1)), (h_0_kept, eI cI 9 (I_0 2)), (h_0_column, eJ cJ 5 (L_0 0)), (h_0_size, eI cI 5 (I_0 3)), (h_0_hidden, eI cI 5 (I_0 4)), (h_0_cell, eI cI 2 (I_0 5)), (h_0_home, eI cI 4 (I_0 6)), (h_0_waste, eI cI 8 (I_0 7)), (h_0_stock, eI cI 8 (I_0 8)), (h_0_past, eJ cJ 1616 (L_0 1)), (h_0_start, eJ cJ 8 (L_0 2)), (h_0_known, eJ cJ 3216 (L_0 3)), (h_0_sorted, eJ cJ 3216 (L_0 4)), (h_0_row, eI cI 16 (I_0 9)), (h_0_best, eJ cJ 8 (L_0 5))] H locs → lv_has ls 6 [(0, .ref h_0), (1, .int v1), (2, .int v2), (3, .int v3), (4, .int v4), (5, .int v5)] → F_X6_numberOf_L63  K38 n I_0 L_0 v1 v2 v3 v4 v5 = some (rv, r_I_0, r_L_0) → W p l e ({ frames := 2, cells := 0, slots := 0, locals := 51 } : Room) s m args below meth c H locs 0 0 Q (F0 m 63 ls []) := by
    intro K38 hK38 n
    induction n with
    | zero => intro I_0 L_0 v1 v2 v3 v4 v5 H locs ls hS hl hF; exact nomatch (show (none : Option (Int32 × (Nat → Nat → Int32) × (Nat → Nat → Int64))) = some _ from hF)
    | succ n ih => intro I_0 L_0 v1 v2 v3 v4 v5 H locs ls hS hl hF; exact S63 K38 hK38 _ ih I_0 L_0 v1 v2 v3 v4 v5 H locs ls hS hl hF
  have S38 : ∀ (K38 : (Nat → Nat → Int32) → (Nat → Nat → Int64) → Int32 → Int32 → Int32 → Option (Int32 × (Nat → Nat → Int32) × (Nat → Nat → Int64))) (_ : ∀ (I_0 : Nat → Nat → Int32) (L_0 : Nat → Nat → Int64) (v1 : Int32) (v2 : Int32) (v3 : Int32) (H : Heap) (locs : List Loc) (ls : Array Slot), HS D A H0 [(h_0, oX6 h_0_of h_0_kept h_0_column h_0_size h_0_hidden h_0_cell h_0_home h_0_waste h_0_stock h_0_past h_0_start h_0_known h_0_sorted h_0_row h_0_best I_0), (h_0_of, eI cI 9 (I_0 1)), (h_0_kept, eI cI 9 (I_0 2)), (h_0_column, eJ cJ 5 (L_0 0)), (h_0_size, eI cI 5 (I_0 3)), (h_0_hidden, eI cI 5 (I_0 4)), (h_0_cell, eI cI 2 (I_0 5)), (h_0_home, eI cI 4 (I_0 6)), (h_0_waste, eI cI 8 (I_0 7)), (h_0_stock, eI cI 8 (I_0 8)), (h_0_past, eJ cJ 1616 (L_0 1)), (h_0_start, eJ cJ 8 (L_0 2)), (h_0_known, eJ cJ 3216 (L_0 3)), (h_0_sorted, eJ cJ 3216 (L_0 4)), (h_0_row, eI cI 16 (I_0 9)), (h_0_best, eJ cJ 8 (L_0 5))] H locs → lv_has ls 6 [(0, .ref h_0), (1, .int v1), (2, .int v2), (3, .int v3)] → K38 I_0 L_0 v1 v2 v3 = some (rv, r_I_0, r_L_0) → W p l e ({ frames := 2, cells := 0, slots := 0, locals := 51 } : Room) s m args below meth c H locs 0 0 Q (F0 m 38 ls [])) (I_0 : Nat → Nat → Int32) (L_0 : Nat → Nat → Int64) (v1 : Int32) (v2 : Int32) (v3 : Int32) (H : Heap) (locs : List Loc) (ls : Array Slot), HS D A H0 [(h_0, oX6 h_0_of h_0_kept h_0_column h_0_size h_0_hidden h_0_cell h_0_home h_0_waste h_0_stock h_0_past h_0_start h_0_known h_0_sorted h_0_row h_0_best I_0), (h_0_of, eI cI 9 (I_0 1)), (h_0_kept, eI cI 9 (I_0 2)), (h_0_column, eJ cJ 5 (L_0 0)), (h_0_size, eI cI 5 (I_0 3)), (h_0_hidden, eI cI 5 (I_0 4)), (h_0_cell, eI cI 2 (I_0 5)), (h_0_home, eI cI 4 (I_0 6)), (h_0_waste, eI cI 8 (I_0 7)), (h_0_stock, eI cI 8 (I_0 8)), (h_0_past, eJ cJ 1616 (L_0 1)), (h_0_start, eJ cJ 8 (L_0 2)), (h_0_known, eJ cJ 3216 (L_0 3)), (h_0_sorted, eJ cJ 3216 (L_0 4)), (h_0_row, eI cI 16 (I_0 9)), (h_0_best, eJ cJ 8 (L_0 5))] H locs → lv_has ls 6 [(0, .ref h_0), (1, .int v1), (2, .int v2), (3, .int v3)] → F_X6_numberOf_s38  K38 I_0 L_0 v1 v2 v3 = some (rv, r_I_0, r_L_0) → W p l e ({ frames := 2, cells := 0, slots := 0, locals := 51 } : Room) s m args below meth c H locs 0 0 Q (F0 m 38 ls []) := by
    intro K38 hK38 I_0 L_0 v1 v2 v3 H locs ls hS hl hF
    unfold F_X6_numberOf_s38 at hF
    refine lv_iload_n hx hb dX6_numberOf_38 rfl (lv_at hl 3 rfl) ?_
    refine lv_if_lt (tgt := 123) hx hb dX6_numberOf_39 (by decide) (fun c_12 => ?_) (fun c_12 => ?_)
    · replace hF := ifp hF c_12
      exact B123 I_0 L_0 v2 _ _ _ hS (lv_sub hl [0, 2] rfl) hF
    · replace hF := ifn hF c_12
      refine lv_aload_n hx hb dX6_numberOf_42 rfl (lv_at hl 0 rfl) ?_
      refine lv_iload_n hx hb dX6_numberOf_43 rfl (lv_at hl 1 rfl) ?_
      refine lv_iload_n hx hb dX6_numberOf_44 rfl (lv_at hl 3 rfl) ?_
      replace hF := cal2_e hF
      obtain ⟨I_0u13, L_0u14, hc15, hF⟩ := hF
      refine kV_v (As := [.int v1, .int v3]) (rest := []) (wr := []) (w2 := [(h_0, oX6 h_0_of h_0_kept h_0_column h_0_size h_0_hidden h_0_cell h_0_home h_0_waste h_0_stock h_0_past h_0_start h_0_known h_0_sorted h_0_row h_0_best I_0u13), (h_0_of, eI cI 9 (I_0u13 1)), (h_0_kept, eI cI 9 (I_0u13 2)), (h_0_column, eJ cJ 5 (L_0u14 0)), (h_0_size, eI cI 5 (I_0u13 3)), (h_0_hidden, eI cI 5 (I_0u13 4)), (h_0_cell, eI cI 2 (I_0u13 5)), (h_0_home, eI cI 4 (I_0u13 6)), (h_0_waste, eI cI 8 (I_0u13 7)), (h_0_stock, eI cI 8 (I_0u13 8)), (h_0_past, eJ cJ 1616 (L_0u14 1)), (h_0_start, eJ cJ 8 (L_0u14 2)), (h_0_known, eJ cJ 3216 (L_0u14 3)), (h_0_sorted, eJ cJ 3216 (L_0u14 4)), (h_0_row, eI cI 16 (I_0u13 9)), (h_0_best, eJ cJ 8 (L_0u14 5))]) hCF hK (c_X6_lay l D cI cJ h_0 h_0_of h_0_kept h_0_column h_0_size h_0_hidden h_0_cell h_0_home h_0_waste h_0_stock h_0_past h_0_start h_0_known h_0_sorted h_0_row h_0_best I_0 L_0 v1 v3 I_0u13 L_0u14 hc15) (cwV 2 hts (TBL_V mw_184 mw_185 mw_186 mw_5 mw_187) rfl rfl rfl pmX6_lay ⟨Nat.le_of_ble_eq_true rfl, Nat.le_of_ble_eq_true rfl⟩) hS hA [0, 1, 2, 3, 4, 5, 6, 7, 8, 9, 10, 11, 12, 13, 14, 15] [] rfl rfl rfl rfl (by decide) rfl rfl rfl hl.1 rfl (Nat.le_of_ble_eq_true rfl) ⟨Nat.zero_le _, Nat.zero_le _⟩ dX6_numberOf_45 rfl (fun H locs hS => ?_)
      refine lv_aload_n hx hb dX6_numberOf_48 rfl (lv_at hl 0 rfl) ?_
      refine lv_aload_n hx hb dX6_numberOf_49 rfl (lv_at hl 0 rfl) ?_
      refine r_get hx hb hts inX6 hown hK hS 0 27 rfl rfl (by decide) q2 rfl dX6_numberOf_50 ?_
      refine lv_iconst (v := (nI 0)) hx hb dX6_numberOf_53 (by decide) ?_
      replace hF := cal1_e hF
      obtain ⟨L_0u16, hc17, hF⟩ := hF
      refine kV_v (As := [.ref h_0_known, .int (nI 0)]) (rest := []) (wr := []) (w2 := [(h_0, oX6 h_0_of h_0_kept h_0_column h_0_size h_0_hidden h_0_cell h_0_home h_0_waste h_0_stock h_0_past h_0_start h_0_known h_0_sorted h_0_row h_0_best I_0u13), (h_0_of, eI cI 9 (I_0u13 1)), (h_0_kept, eI cI 9 (I_0u13 2)), (h_0_column, eJ cJ 5 (L_0u16 0)), (h_0_size, eI cI 5 (I_0u13 3)), (h_0_hidden, eI cI 5 (I_0u13 4)), (h_0_cell, eI cI 2 (I_0u13 5)), (h_0_home, eI cI 4 (I_0u13 6)), (h_0_waste, eI cI 8 (I_0u13 7)), (h_0_stock, eI cI 8 (I_0u13 8)), (h_0_past, eJ cJ 1616 (L_0u16 1)), (h_0_start, eJ cJ 8 (L_0u16 2)), (h_0_known, eJ cJ 3216 (L_0u16 3)), (h_0_sorted, eJ cJ 3216 (L_0u16 4)), (h_0_row, eI cI 16 (I_0u13 9)), (h_0_best, eJ cJ 8 (L_0u16 5))]) hCF hK (c_X6_store_known l D cI cJ h_0 h_0_of h_0_kept h_0_column h_0_size h_0_hidden h_0_cell h_0_home h_0_waste h_0_stock h_0_past h_0_start h_0_known h_0_sorted h_0_row h_0_best I_0u13 L_0u14 (nI 0) L_0u16 hc17) (cwV 2 hts (TBL_V mw_209 mw_210 mw_211 mw_5 mw_212) rfl rfl rfl pmX6_store ⟨Nat.le_of_ble_eq_true rfl, Nat.le_of_ble_eq_true rfl⟩) hS hA [0, 1, 2, 3, 4, 5, 6, 7, 8, 9, 10, 11, 12, 13, 14, 15] [] rfl rfl rfl rfl (by decide) rfl rfl rfl hl.1 rfl (Nat.le_of_ble_eq_true rfl) ⟨Nat.zero_le _, Nat.zero_le _⟩ dX6_numberOf_54 rfl (fun H locs hS => ?_)
      refine lv_iconst (v := (nI 1)) hx hb dX6_numberOf_57 (by decide) ?_
      refine lv_istore (lv' := [(4, .int (nI 1)), (0, .ref h_0), (1, .int v1), (2, .int v2), (3, .int v3)]) hx hb dX6_numberOf_58 hl (by decide) rfl (fun ls hl => ?_)
      refine lv_iconst (v := (nI 0)) hx hb dX6_numberOf_60 (by decide) ?_
      refine lv_istore (lv' := [(5, .int (nI 0)), (4, .int (nI 1)), (0, .ref h_0), (1, .int v1), (2, .int v2), (3, .int v3)]) hx hb dX6_numberOf_61 hl (by decide) rfl (fun ls hl => ?_)
      exact L63 K38 hK38 FU I_0u13 L_0u16 v1 v2 v3 (nI 1) (nI 0) _ _ _ hS (lv_sub hl [2, 3, 4, 5, 1, 0] rfl) hF
  have L38 : ∀  (n : Nat) (I_0 : Nat → Nat → Int32) (L_0 : Nat → Nat → Int64) (v1 : Int32) (v2 : Int32) (v3 : Int32) (H : Heap) (locs : List Loc) (ls : Array Slot), HS D A H0 [(h_0, oX6 h_0_of h_0_kept h_0_column h_0_size h_0_hidden h_0_cell h_0_home h_0_waste h_0_stock h_0_past h_0_start h_0_known h_0_sorted h_0_row h_0_best I_0), (h_0_of, eI cI 9 (I_0 1)), (h_0_kept, eI cI 9 (I_0 2)), (h_0_column, eJ cJ 5 (L_0 0)), (h_0_size, eI cI 5 (I_0 3)), (h_0_hidden, eI cI 5 (I_0 4)), (h_0_cell, eI cI 2 (I_0 5)), (h_0_home, eI cI 4 (I_0 6)), (h_0_waste, eI cI 8 (I_0 7)), (h_0_stock, eI cI 8 (I_0 8)), (h_0_past, eJ cJ 1616 (L_0 1)), (h_0_start, eJ cJ 8 (L_0 2)), (h_0_known, eJ cJ 3216 (L_0 3)), (h_0_sorted, eJ cJ 3216 (L_0 4)), (h_0_row, eI cI 16 (I_0 9)), (h_0_best, eJ cJ 8 (L_0 5))] H locs → lv_has ls 6 [(0, .ref h_0), (1, .int v1), (2, .int v2), (3, .int v3)] → F_X6_numberOf_L38   n I_0 L_0 v1 v2 v3 = some (rv, r_I_0, r_L_0) → W p l e ({ frames := 2, cells := 0, slots := 0, locals := 51 } : Room) s m args below meth c H locs 0 0 Q (F0 m 38 ls []) := by
    intro  n
    induction n with
    | zero => intro I_0 L_0 v1 v2 v3 H locs ls hS hl hF; exact nomatch (show (none : Option (Int32 × (Nat → Nat → Int32) × (Nat → Nat → Int64))) = some _ from hF)
    | succ n ih => intro I_0 L_0 v1 v2 v3 H locs ls hS hl hF; exact S38  _ ih I_0 L_0 v1 v2 v3 H locs ls hS hl hF
  have B15 : ∀ (I_0 : Nat → Nat → Int32) (L_0 : Nat → Nat → Int64) (v1 : Int32) (s1 : Int32) (H : Heap) (locs : List Loc) (ls : Array Slot), HS D A H0 [(h_0, oX6 h_0_of h_0_kept h_0_column h_0_size h_0_hidden h_0_cell h_0_home h_0_waste h_0_stock h_0_past h_0_start h_0_known h_0_sorted h_0_row h_0_best I_0), (h_0_of, eI cI 9 (I_0 1)), (h_0_kept, eI cI 9 (I_0 2)), (h_0_column, eJ cJ 5 (L_0 0)), (h_0_size, eI cI 5 (I_0 3)), (h_0_hidden, eI cI 5 (I_0 4)), (h_0_cell, eI cI 2 (I_0 5)), (h_0_home, eI cI 4 (I_0 6)), (h_0_waste, eI cI 8 (I_0 7)), (h_0_stock, eI cI 8 (I_0 8)), (h_0_past, eJ cJ 1616 (L_0 1)), (h_0_start, eJ cJ 8 (L_0 2)), (h_0_known, eJ cJ 3216 (L_0 3)), (h_0_sorted, eJ cJ 3216 (L_0 4)), (h_0_row, eI cI 16 (I_0 9)), (h_0_best, eJ cJ 8 (L_0 5))] H locs → lv_has ls 6 [(0, .ref h_0), (1, .int v1)] → F_X6_numberOf_b15   I_0 L_0 v1 s1 = some (rv, r_I_0, r_L_0) → W p l e ({ frames := 2, cells := 0, slots := 0, locals := 51 } : Room) s m args below meth c H locs 0 0 Q (F0 m 15 ls [.int s1, .ref h_0]) := by
    intro I_0 L_0 v1 s1 H locs ls hS hl hF
    unfold F_X6_numberOf_b15 at hF
    replace hF := cal2_e hF
    obtain ⟨x18, I_0u19, hc20, hF⟩ := hF
    refine kV_i (As := [.int s1]) (rest := []) (wr := []) (w2 := [(h_0, oX6 h_0_of h_0_kept h_0_column h_0_size h_0_hidden h_0_cell h_0_home h_0_waste h_0_stock h_0_past h_0_start h_0_known h_0_sorted h_0_row h_0_best I_0u19), (h_0_of, eI cI 9 (I_0u19 1)), (h_0_kept, eI cI 9 (I_0u19 2)), (h_0_column, eJ cJ 5 (L_0 0)), (h_0_size, eI cI 5 (I_0u19 3)), (h_0_hidden, eI cI 5 (I_0u19 4)), (h_0_cell, eI cI 2 (I_0u19 5)), (h_0_home, eI cI 4 (I_0u19 6)), (h_0_waste, eI cI 8 (I_0u19 7)), (h_0_stock, eI cI 8 (I_0u19 8)), (h_0_past, eJ cJ 1616 (L_0 1)), (h_0_start, eJ cJ 8 (L_0 2)), (h_0_known, eJ cJ 3216 (L_0 3)), (h_0_sorted, eJ cJ 3216 (L_0 4)), (h_0_row, eI cI 16 (I_0u19 9)), (h_0_best, eJ cJ 8 (L_0 5))]) hCF hK (c_X6_goesWell l D cI cJ h_0 h_0_of h_0_kept h_0_column h_0_size h_0_hidden h_0_cell h_0_home h_0_waste h_0_stock h_0_past h_0_start h_0_known h_0_sorted h_0_row h_0_best L_0 I_0 s1 x18 I_0u19 hc20) (cwV 1 hts (TBL_V mw_237 mw_238 mw_239 mw_5 mw_240) rfl rfl rfl pmX6_goesWell ⟨Nat.le_of_ble_eq_true rfl, Nat.le_of_ble_eq_true rfl⟩) hS hA [0, 1, 2, 3, 4, 5, 6, 7, 8, 9, 10, 11, 12, 13, 14, 15] [] rfl rfl rfl rfl (by decide) rfl rfl rfl hl.1 rfl (Nat.le_of_ble_eq_true rfl) ⟨Nat.zero_le _, Nat.zero_le _⟩ dX6_numberOf_15 rfl (fun H locs hS => ?_)
    refine lv_if_ne (tgt := 23) hx hb dX6_numberOf_18 (by decide) (fun c_21 => ?_) (fun c_21 => ?_)
    · replace hF := ifn hF c_21
      refine lv_aload_n hx hb dX6_numberOf_23 rfl (lv_at hl 0 rfl) ?_
      refine lv_aload_n hx hb dX6_numberOf_24 rfl (lv_at hl 0 rfl) ?_
      refine r_get hx hb hts inX6 hown hK hS 0 26 rfl rfl (by decide) q0 rfl dX6_numberOf_25 ?_
      refine lv_iconst (v := (nI 0)) hx hb dX6_numberOf_28 (by decide) ?_
      replace hF := cal1_e hF
      obtain ⟨L_0u22, hc23, hF⟩ := hF
      refine kV_v (As := [.ref h_0_start, .int (nI 0)]) (rest := []) (wr := []) (w2 := [(h_0, oX6 h_0_of h_0_kept h_0_column h_0_size h_0_hidden h_0_cell h_0_home h_0_waste h_0_stock h_0_past h_0_start h_0_known h_0_sorted h_0_row h_0_best I_0u19), (h_0_of, eI cI 9 (I_0u19 1)), (h_0_kept, eI cI 9 (I_0u19 2)), (h_0_column, eJ cJ 5 (L_0u22 0)), (h_0_size, eI cI 5 (I_0u19 3)), (h_0_hidden, eI cI 5 (I_0u19 4)), (h_0_cell, eI cI 2 (I_0u19 5)), (h_0_home, eI cI 4 (I_0u19 6)), (h_0_waste, eI cI 8 (I_0u19 7)), (h_0_stock, eI cI 8 (I_0u19 8)), (h_0_past, eJ cJ 1616 (L_0u22 1)), (h_0_start, eJ cJ 8 (L_0u22 2)), (h_0_known, eJ cJ 3216 (L_0u22 3)), (h_0_sorted, eJ cJ 3216 (L_0u22 4)), (h_0_row, eI cI 16 (I_0u19 9)), (h_0_best, eJ cJ 8 (L_0u22 5))]) hCF hK (c_X6_store_start l D cI cJ h_0 h_0_of h_0_kept h_0_column h_0_size h_0_hidden h_0_cell h_0_home h_0_waste h_0_stock h_0_past h_0_start h_0_known h_0_sorted h_0_row h_0_best I_0u19 L_0 (nI 0) L_0u22 hc23) (cwV 2 hts (TBL_V mw_209 mw_210 mw_211 mw_5 mw_212) rfl rfl rfl pmX6_store ⟨Nat.le_of_ble_eq_true rfl, Nat.le_of_ble_eq_true rfl⟩) hS hA [0, 1, 2, 3, 4, 5, 6, 7, 8, 9, 10, 11, 12, 13, 14, 15] [] rfl rfl rfl rfl (by decide) rfl rfl rfl hl.1 rfl (Nat.le_of_ble_eq_true rfl) ⟨Nat.zero_le _, Nat.zero_le _⟩ dX6_numberOf_29 rfl (fun H locs hS => ?_)
      refine lv_iconst (v := (-1)) hx hb dX6_numberOf_32 (by decide) ?_
      refine lv_istore_n (lv' := [(2, .int (-1)), (0, .ref h_0), (1, .int v1)]) hx hb dX6_numberOf_33 rfl hl (by decide) rfl (fun ls hl => ?_)
      refine lv_sipush (v := (nI 500)) hx hb dX6_numberOf_34 (by decide) ?_
      refine lv_istore_n (lv' := [(3, .int (nI 500)), (2, .int (-1)), (0, .ref h_0), (1, .int v1)]) hx hb dX6_numberOf_37 rfl hl (by decide) rfl (fun ls hl => ?_)
      exact L38 FU I_0u19 L_0u22 v1 (-1) (nI 500) _ _ _ hS (lv_sub hl [2, 3, 1, 0] rfl) hF
    · replace hF := ifp hF c_21
      refine lv_iconst (v := (nI 0)) hx hb dX6_numberOf_21 (by decide) ?_
      have e9_0 := Option.some.inj hF
      obtain ⟨f9_0, e9_1⟩ := Prod.mk.inj e9_0
      obtain ⟨f9_1, e9_2⟩ := Prod.mk.inj e9_1
      subst f9_0
      subst f9_1
      subst e9_2
      exact kret _ _ _ _ hS dX6_numberOf_22
  unfold F_X6_numberOf at hF
  refine lv_aload_n hx hb dX6_numberOf_0 rfl (lv_at hl 0 rfl) ?_
  refine lv_iload_n hx hb dX6_numberOf_1 rfl (lv_at hl 1 rfl) ?_
  refine lv_iconst (v := (nI 0)) hx hb dX6_numberOf_2 (by decide) ?_
  refine lv_iconst (v := (nI 1)) hx hb dX6_numberOf_3 (by decide) ?_
  replace hF := cal1_e hF
  obtain ⟨x24, hc25, hF⟩ := hF
  refine kS_i (As := [.int v1, .int (nI 0), .int (nI 1)]) (rest := [.ref h_0]) (wr := [(h_0, oX6 h_0_of h_0_kept h_0_column h_0_size h_0_hidden h_0_cell h_0_home h_0_waste h_0_stock h_0_past h_0_start h_0_known h_0_sorted h_0_row h_0_best I_0), (h_0_of, eI cI 9 (I_0 1)), (h_0_kept, eI cI 9 (I_0 2)), (h_0_column, eJ cJ 5 (L_0 0)), (h_0_size, eI cI 5 (I_0 3)), (h_0_hidden, eI cI 5 (I_0 4)), (h_0_cell, eI cI 2 (I_0 5)), (h_0_home, eI cI 4 (I_0 6)), (h_0_waste, eI cI 8 (I_0 7)), (h_0_stock, eI cI 8 (I_0 8)), (h_0_past, eJ cJ 1616 (L_0 1)), (h_0_start, eJ cJ 8 (L_0 2)), (h_0_known, eJ cJ 3216 (L_0 3)), (h_0_sorted, eJ cJ 3216 (L_0 4)), (h_0_row, eI cI 16 (I_0 9)), (h_0_best, eJ cJ 8 (L_0 5))]) (w2 := [(h_0, oX6 h_0_of h_0_kept h_0_column h_0_size h_0_hidden h_0_cell h_0_home h_0_waste h_0_stock h_0_past h_0_start h_0_known h_0_sorted h_0_row h_0_best I_0), (h_0_of, eI cI 9 (I_0 1)), (h_0_kept, eI cI 9 (I_0 2)), (h_0_column, eJ cJ 5 (L_0 0)), (h_0_size, eI cI 5 (I_0 3)), (h_0_hidden, eI cI 5 (I_0 4)), (h_0_cell, eI cI 2 (I_0 5)), (h_0_home, eI cI 4 (I_0 6)), (h_0_waste, eI cI 8 (I_0 7)), (h_0_stock, eI cI 8 (I_0 8)), (h_0_past, eJ cJ 1616 (L_0 1)), (h_0_start, eJ cJ 8 (L_0 2)), (h_0_known, eJ cJ 3216 (L_0 3)), (h_0_sorted, eJ cJ 3216 (L_0 4)), (h_0_row, eI cI 16 (I_0 9)), (h_0_best, eJ cJ 8 (L_0 5))]) hCF hK (c_X6_in l D cI cJ v1 (nI 0) (nI 1) x24 hc25) (va_cwS 3 hts (TBL_S mw_234 mw_235 mw_5 mw_236) rfl rfl rfl pmX6_in.2 ⟨Nat.le_of_ble_eq_true rfl, Nat.le_of_ble_eq_true rfl⟩) hS hA [] [0, 1, 2, 3, 4, 5, 6, 7, 8, 9, 10, 11, 12, 13, 14, 15] rfl rfl rfl rfl (by decide) rfl hl.1 rfl (Nat.le_of_ble_eq_true rfl) ⟨Nat.zero_le _, Nat.zero_le _⟩ dX6_numberOf_4 rfl (fun H locs hS => ?_)
  refine lv_if_eq (tgt := 14) hx hb dX6_numberOf_7 (by decide) (fun c_26 => ?_) (fun c_26 => ?_)
  · replace hF := ifp hF c_26
    refine lv_iconst (v := (nI 1)) hx hb dX6_numberOf_14 (by decide) ?_
    exact B15 I_0 L_0 v1 (nI 1) _ _ _ hS (lv_sub hl [0, 1] rfl) hF
  · replace hF := ifn hF c_26
    refine lv_iconst (v := (nI 0)) hx hb dX6_numberOf_10 (by decide) ?_
    refine lv_goto (tgt := 15) hx hb dX6_numberOf_11 (by decide) ?_
    exact B15 I_0 L_0 v1 (nI 0) _ _ _ hS (lv_sub hl [0, 1] rfl) hF
set_option maxHeartbeats 4000000 in
set_option maxRecDepth 100000 in
theorem c_X6_cardAt (l : Launch) (D : va_G) (cI cJ : ClassId) (h_0 h_0_of h_0_kept h_0_column h_0_size h_0_hidden h_0_cell h_0_home h_0_waste h_0_stock h_0_past h_0_start h_0_known h_0_sorted h_0_row h_0_best : Nat) (I_0 : Nat → Nat → Int32) (L_0 : Nat → Nat → Int64) (v1 : Int32) (v2 : Int32) (rv : Int32) (hF : F_X6_cardAt I_0 L_0 v1 v2 = some rv) : CtI l D [(cI, .int), (cJ, .long)] yX6_cardAt wtX6_cardAt ({ frames := 0, cells := 0, slots := 0, locals := 0 } : Room) [.ref h_0, .int v1, .int v2] [(h_0, oX6 h_0_of h_0_kept h_0_column h_0_size h_0_hidden h_0_cell h_0_home h_0_waste h_0_stock h_0_past h_0_start h_0_known h_0_sorted h_0_row h_0_best I_0), (h_0_of, eI cI 9 (I_0 1)), (h_0_kept, eI cI 9 (I_0 2)), (h_0_column, eJ cJ 5 (L_0 0)), (h_0_size, eI cI 5 (I_0 3)), (h_0_hidden, eI cI 5 (I_0 4)), (h_0_cell, eI cI 2 (I_0 5)), (h_0_home, eI cI 4 (I_0 6)), (h_0_waste, eI cI 8 (I_0 7)), (h_0_stock, eI cI 8 (I_0 8)), (h_0_past, eJ cJ 1616 (L_0 1)), (h_0_start, eJ cJ 8 (L_0 2)), (h_0_known, eJ cJ 3216 (L_0 3)), (h_0_sorted, eJ cJ 3216 (L_0 4)), (h_0_row, eI cI 16 (I_0 9)), (h_0_best, eJ cJ 8 (L_0 5))] [(h_0, oX6 h_0_of h_0_kept h_0_column h_0_size h_0_hidden h_0_cell h_0_home h_0_waste h_0_stock h_0_past h_0_start h_0_known h_0_sorted h_0_row h_0_best I_0), (h_0_of, eI cI 9 (I_0 1)), (h_0_kept, eI cI 9 (I_0 2)), (h_0_column, eJ cJ 5 (L_0 0)), (h_0_size, eI cI 5 (I_0 3)), (h_0_hidden, eI cI 5 (I_0 4)), (h_0_cell, eI cI 2 (I_0 5)), (h_0_home, eI cI 4 (I_0 6)), (h_0_waste, eI cI 8 (I_0 7)), (h_0_stock, eI cI 8 (I_0 8)), (h_0_past, eJ cJ 1616 (L_0 1)), (h_0_start, eJ cJ 8 (L_0 2)), (h_0_known, eJ cJ 3216 (L_0 3)), (h_0_sorted, eJ cJ 3216 (L_0 4)), (h_0_row, eI cI 16 (I_0 9)), (h_0_best, eJ cJ 8 (L_0 5))] rv := by
  refine CtI.of (cc := cX6_cardAt) (maxL := 3) (by decide) rfl (Nat.le_of_ble_eq_true rfl) ?_
  intro p e s m args below meth c A H0 Q ls X hS hl kret
  have hCF := X.1
  obtain ⟨⟨hx, hb, hml, hown, hts⟩, hK, hA⟩ := X
  have hl : lv_has ls 3 [(0, .ref h_0), (1, .int v1), (2, .int v2)] := hl
  have q0 := hts (.fieldLink RX6 32 "PatienceryModel" "column" "[J") (List.mem_cons_of_mem _ mw_163)
  have inX6 : ∀ w ∈ u_ws RX6 TX6 32, w ∈ wtX6_cardAt := fun w h => List.mem_cons_of_mem _ (inlX6 w h)
  have q2 := hts (.constantLong RX6 157 (15)) (List.mem_cons_of_mem _ mw_338)
  unfold F_X6_cardAt at hF
  refine lv_aload_n hx hb dX6_cardAt_0 rfl (lv_at hl 0 rfl) ?_
  refine r_get hx hb hts inX6 hown hK hS 0 15 rfl rfl (by decide) q0 rfl dX6_cardAt_1 ?_
  refine lv_iload_n hx hb dX6_cardAt_4 rfl (lv_at hl 1 rfl) ?_
  replace hF := rdA_e hF
  obtain ⟨hi2, x1, ex1, hF⟩ := hF
  refine r_lald hx hb hK hS 3 rfl rfl hi2 dX6_cardAt_5 ex1 ?_
  refine lv_iconst (v := (nI 4)) hx hb dX6_cardAt_6 (by decide) ?_
  refine lv_iload_n hx hb dX6_cardAt_7 rfl (lv_at hl 2 rfl) ?_
  refine lv_imul hx hb dX6_cardAt_8 ?_
  refine lv_lushr hx hb dX6_cardAt_9 rfl ?_
  refine lv_ldc2 (v := (lN 15)) hx hb hown q2 dX6_cardAt_10 ?_
  refine lv_land hx hb dX6_cardAt_13 ?_
  refine lv_l2i hx hb dX6_cardAt_14 rfl ?_
  have e9_0 := Option.some.inj hF
  subst e9_0
  exact kret _ _ _ _ hS dX6_cardAt_15
