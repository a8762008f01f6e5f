set_option maxHeartbeats 4000000 in
set_option maxRecDepth 100000 in
theorem law_2 {p : Program} {l : Launch} {e : Env} {s : State} {m9 : MethodId} {below : List Frame} {meth : Method} {c : Code} {b L0 : Nat} {xs : Nat → Int32} {D : va_G} {cI cJ : ClassId} {Qf : State → Prop} (X : LCx p l s m9 c b L0 xs D cI cJ) {a m : Nat → Nat} {out i cells slots : Nat} {Z : AS} {H : Heap} {locs : List Loc} {ls : Array Slot} (hi : i + 5 ≤ L0) (hc : cells + 1 ≤ room_1.cells ∧ slots + 6 ≤ room_1.slots) (hS : LawSt D cI cJ s a m out Z H locs) (hl : lv_has ls 7 [(4, .int (nI i)), (3, .ref out), (2, .ref (m 0)), (1, .ref (a 0)), (0, .ref b)])
    (kk : ∀ (Z' : AS) (H : Heap) (locs : List Loc) (ls : Array Slot), LawSt D cI cJ s a m out Z' H locs → lv_has ls 7 [(4, .int (nI i)), (3, .ref out), (2, .ref (m 0)), (1, .ref (a 0)), (0, .ref b)] → W p l e room_1 s m9 #[.ref b] below meth c H locs (cells + 1) (slots + 6) Qf (F0 m9 1015 ls [])) : W p l e room_1 s m9 #[.ref b] below meth c H locs cells slots Qf (F0 m9 256 ls []) := by
  obtain ⟨hx, hb, hml, hown, hts, hK, hE, hZ, hX, hbl, hL, hfl⟩ := X
  have hA : ∀ q : Nat, s.heap.size ≤ q → (fun q : Nat => s.heap.size ≤ q) q := fun _ h => h
  have hbA : ¬ (fun q : Nat => s.heap.size ≤ q) b := Nat.not_le.mpr hbl
  have hCF : CallFix p m9 c code 7 s #[.ref b] TBL RL := ⟨hx, hb, hml, hown, hts⟩
  obtain ⟨gt, go, f, P, rn, r, T, S, Q, Tt, To, Ss, Dd, Dt, I, L, hZ0, hC, hM, hS⟩ := hS
  obtain ⟨rn', hF, hC'⟩ := C_stock hZ0 hC (xs (i + 1)) (xs (i + 2)) (decide (¬ xs (i + 3) = nI 0))
  obtain ⟨hZ', I', hG, hG0, hM'⟩ := M_stock hZ0 hM (xs (i + 1)) (xs (i + 2)) (decide (¬ xs (i + 3) = nI 0))
  refine lv_aload_n hx hb dL_law_256 rfl (lv_at hl 3 rfl) ?_
  refine lv_aload_n hx hb dL_law_257 rfl (lv_at hl 4 rfl) ?_
  refine lv_iload hx hb dL_law_258 (lv_at hl 0 rfl) ?_
  refine lv_iconst (v := (nI 1)) hx hb dL_law_260 (by decide) ?_
  refine lv_iadd hx hb dL_law_261 ?_
  rw [nI_add]
  refine va_sld hx hb hX hbl hbA hS.2.2 (vp_in_nI (by omega) (by omega)) dL_law_262 ?_
  rw [nI_clamp (by omega)]
  refine lv_aload_n hx hb dL_law_263 rfl (lv_at hl 4 rfl) ?_
  refine lv_iload hx hb dL_law_264 (lv_at hl 0 rfl) ?_
  refine lv_iconst (v := (nI 2)) hx hb dL_law_266 (by decide) ?_
  refine lv_iadd hx hb dL_law_267 ?_
  rw [nI_add]
  refine va_sld hx hb hX hbl hbA hS.2.2 (vp_in_nI (by omega) (by omega)) dL_law_268 ?_
  rw [nI_clamp (by omega)]
  refine lv_aload_n hx hb dL_law_269 rfl (lv_at hl 4 rfl) ?_
  refine lv_iload hx hb dL_law_270 (lv_at hl 0 rfl) ?_
  refine lv_iconst (v := (nI 3)) hx hb dL_law_272 (by decide) ?_
  refine lv_iadd hx hb dL_law_273 ?_
  rw [nI_add]
  refine va_sld hx hb hX hbl hbA hS.2.2 (vp_in_nI (by omega) (by omega)) dL_law_274 ?_
  rw [nI_clamp (by omega)]
  suffices k9 : W p l e room_1 s m9 #[.ref b] below meth c H locs cells slots Qf (F0 m9 283 ls (.int (bi (decide (¬ xs (i + 3) = nI 0))) :: [.int (xs (i + 2)), .int (xs (i + 1)), .ref (a 0)])) by
    refine lv_if_eq (tgt := 282) hx hb dL_law_275 (by decide) (fun c1 => ?_) (fun c1 => ?_)
    · refine lv_iconst (v := (nI 0)) hx hb dL_law_282 (by decide) ?_
      rw [decide_eq_false (p := ¬ xs (i + 3) = nI 0) (Classical.not_not.mpr c1)] at k9
      exact k9
    · refine lv_iconst (v := (nI 1)) hx hb dL_law_278 (by decide) ?_
      refine lv_goto (tgt := 283) hx hb dL_law_279 (by decide) ?_
      rw [decide_eq_true (p := ¬ xs (i + 3) = nI 0) c1] at k9
      exact k9
  refine kH_v (As := [.ref (a 0), .int (xs (i + 1)), .int (xs (i + 2)), .int (bi (decide (¬ xs (i + 3) = nI 0)))]) (rest := []) (wr := [(out, eJ cJ 1 f), (a 2, oX1 r), (a 3, oX4 (a 2) (a 4) (a 5) (a 6) T), (a 4, eI cI 16 (T 1)), (a 5, eI cI 10 (T 2)), (a 6, eI cI 160 (T 3)), (a 7, oX3 (a 8) (a 9) (a 10)), (a 8, eJ cJ 200 (S 0)), (a 9, eJ cJ 200 (S 1)), (a 10, eJ cJ 200 (S 2)), (a 11, oX2 (a 15) (a 19) (a 23) (a 12) (a 13) (a 14) Q), (a 12, eI cI 401 (Q 1)), (a 13, eI cI 256 (Q 2)), (a 14, eI cI 401 (Q 3)), (a 15, oX4 gt (a 16) (a 17) (a 18) Tt), (a 16, eI cI 16 (Tt 1)), (a 17, eI cI 10 (Tt 2)), (a 18, eI cI 160 (Tt 3)), (a 19, oX4 go (a 20) (a 21) (a 22) To), (a 20, eI cI 16 (To 1)), (a 21, eI cI 10 (To 2)), (a 22, eI cI 160 (To 3)), (a 23, oX3 (a 24) (a 25) (a 26)), (a 24, eJ cJ 401 (Ss 0)), (a 25, eJ cJ 401 (Ss 1)), (a 26, eJ cJ 401 (Ss 2)), (a 27, oX0 (a 28) (a 29)), (a 28, eI cI 16 (Dd 0)), (a 29, eI cI 16 (Dd 1)), (a 30, oX0 (a 31) (a 32)), (a 31, eI cI 16 (Dt 0)), (a 32, eI cI 16 (Dt 1)), (m 0, oX6 (m 1) (m 2) (m 3) (m 4) (m 5) (m 6) (m 7) (m 8) (m 9) (m 10) (m 11) (m 12) (m 13) (m 14) (m 15) I), (m 1, eI cI 9 (I 1)), (m 2, eI cI 9 (I 2)), (m 3, eJ cJ 5 (L 0)), (m 4, eI cI 5 (I 3)), (m 5, eI cI 5 (I 4)), (m 6, eI cI 2 (I 5)), (m 7, eI cI 4 (I 6)), (m 8, eI cI 8 (I 7)), (m 9, eI cI 8 (I 8)), (m 10, eJ cJ 1616 (L 1)), (m 11, eJ cJ 8 (L 2)), (m 12, eJ cJ 3216 (L 3)), (m 13, eJ cJ 3216 (L 4)), (m 14, eI cI 16 (I 9)), (m 15, eJ cJ 8 (L 5))]) hCF hK hE hZ (h_stock l D cI cJ hfl (a 0) (a 1) (a 2) (a 3) (a 7) (a 11) (a 27) (a 30) P rn (xs (i + 1)) (xs (i + 2)) (bi (decide (¬ xs (i + 3) = nI 0))) (aStock Z (xs (i + 1)) (xs (i + 2)) (decide (¬ xs (i + 3) = nI 0))).1 rn' hF (th_stock Z (xs (i + 1)) (xs (i + 2)) (decide (¬ xs (i + 3) = nI 0)))) (vx_cwSW 4 hts (TBL_SW mw_261 mw_262 mw_215 mw_263) rfl rfl rfl pmL_stock.2 ⟨Nat.le_of_ble_eq_true rfl, Nat.le_of_ble_eq_true rfl⟩) hS hA [1, 2] [0, 3, 4, 5, 6, 7, 8, 9, 10, 11, 12, 13, 14, 15, 16, 17, 18, 19, 20, 21, 22, 23, 24, 25, 26, 27, 28, 29, 30, 31, 32, 33, 34, 35, 36, 37, 38, 39, 40, 41, 42, 43, 44, 45, 46, 47, 48, 49] rfl rfl rfl rfl (by decide) rfl hl.1 rfl (Nat.le_of_ble_eq_true rfl) hc dL_law_283 (fun H locs hS => ?_)
  replace hS : HS D (fun q : Nat => s.heap.size ≤ q) s.heap (WL cI cJ out f a gt go P rn' r T S Q Tt To Ss Dd Dt m I L) H locs := by
    by_cases h0 : (aStock Z (xs (i + 1)) (xs (i + 2)) (decide (¬ xs (i + 3) = nI 0))).1 = 0
    · rw [if_pos h0] at hS
      exact (hS.sub [0, 48, 49, 1, 2, 3, 4, 5, 6, 7, 8, 9, 10, 11, 12, 13, 14, 15, 16, 17, 18, 19, 20, 21, 22, 23, 24, 25, 26, 27, 28, 29, 30, 31, 32, 33, 34, 35, 36, 37, 38, 39, 40, 41, 42, 43, 44, 45, 46, 47] rfl rfl)
    · rw [if_neg h0] at hS
      exact (hS.sub [0, 48, 49, 1, 2, 3, 4, 5, 6, 7, 8, 9, 10, 11, 12, 13, 14, 15, 16, 17, 18, 19, 20, 21, 22, 23, 24, 25, 26, 27, 28, 29, 30, 31, 32, 33, 34, 35, 36, 37, 38, 39, 40, 41, 42, 43, 44, 45, 46, 47] rfl rfl)
  refine lv_istore (lv' := [(5, .int (hcode ((aStock Z (xs (i + 1)) (xs (i + 2)) (decide (¬ xs (i + 3) = nI 0))).1))), (4, .int (nI i)), (3, .ref out), (2, .ref (m 0)), (1, .ref (a 0)), (0, .ref b)]) hx hb dL_law_286 hl (by decide) rfl (fun ls hl => ?_)
  refine lv_aload_n hx hb dL_law_288 rfl (lv_at hl 3 rfl) ?_
  refine lv_aload_n hx hb dL_law_289 rfl (lv_at hl 5 rfl) ?_
  refine lv_iload hx hb dL_law_290 (lv_at hl 1 rfl) ?_
  refine lv_iconst (v := (nI 1)) hx hb dL_law_292 (by decide) ?_
  refine lv_iadd hx hb dL_law_293 ?_
  rw [nI_add]
  refine va_sld hx hb hX hbl hbA hS.2.2 (vp_in_nI (by omega) (by omega)) dL_law_294 ?_
  rw [nI_clamp (by omega)]
  refine lv_aload_n hx hb dL_law_295 rfl (lv_at hl 5 rfl) ?_
  refine lv_iload hx hb dL_law_296 (lv_at hl 1 rfl) ?_
  refine lv_iconst (v := (nI 2)) hx hb dL_law_298 (by decide) ?_
  refine lv_iadd hx hb dL_law_299 ?_
  rw [nI_add]
  refine va_sld hx hb hX hbl hbA hS.2.2 (vp_in_nI (by omega) (by omega)) dL_law_300 ?_
  rw [nI_clamp (by omega)]
  refine lv_aload_n hx hb dL_law_301 rfl (lv_at hl 5 rfl) ?_
  refine lv_iload hx hb dL_law_302 (lv_at hl 1 rfl) ?_
  refine lv_iconst (v := (nI 3)) hx hb dL_law_304 (by decide) ?_
  refine lv_iadd hx hb dL_law_305 ?_
  rw [nI_add]
  refine va_sld hx hb hX hbl hbA hS.2.2 (vp_in_nI (by omega) (by omega)) dL_law_306 ?_
  rw [nI_clamp (by omega)]
  suffices k9 : W p l e room_1 s m9 #[.ref b] below meth c H locs (cells + 1) (slots + 6) Qf (F0 m9 315 ls (.int (bi (decide (¬ xs (i + 3) = nI 0))) :: [.int (xs (i + 2)), .int (xs (i + 1)), .ref (m 0)])) by
    refine lv_if_eq (tgt := 314) hx hb dL_law_307 (by decide) (fun c1 => ?_) (fun c1 => ?_)
    · refine lv_iconst (v := (nI 0)) hx hb dL_law_314 (by decide) ?_
      rw [decide_eq_false (p := ¬ xs (i + 3) = nI 0) (Classical.not_not.mpr c1)] at k9
      exact k9
    · refine lv_iconst (v := (nI 1)) hx hb dL_law_310 (by decide) ?_
      refine lv_goto (tgt := 315) hx hb dL_law_311 (by decide) ?_
      rw [decide_eq_true (p := ¬ xs (i + 3) = nI 0) c1] at k9
      exact k9
  refine kV_v (As := [.int (xs (i + 1)), .int (xs (i + 2)), .int (bi (decide (¬ xs (i + 3) = nI 0)))]) (rest := []) (wr := [(out, eJ cJ 1 f), (a 0, oX5 (a 1) (a 2) (a 3) (a 7) (a 11) (a 27) (a 30) P), (a 1, oX1 rn'), (a 2, oX1 r), (a 3, oX4 (a 2) (a 4) (a 5) (a 6) T), (a 4, eI cI 16 (T 1)), (a 5, eI cI 10 (T 2)), (a 6, eI cI 160 (T 3)), (a 7, oX3 (a 8) (a 9) (a 10)), (a 8, eJ cJ 200 (S 0)), (a 9, eJ cJ 200 (S 1)), (a 10, eJ cJ 200 (S 2)), (a 11, oX2 (a 15) (a 19) (a 23) (a 12) (a 13) (a 14) Q), (a 12, eI cI 401 (Q 1)), (a 13, eI cI 256 (Q 2)), (a 14, eI cI 401 (Q 3)), (a 15, oX4 gt (a 16) (a 17) (a 18) Tt), (a 16, eI cI 16 (Tt 1)), (a 17, eI cI 10 (Tt 2)), (a 18, eI cI 160 (Tt 3)), (a 19, oX4 go (a 20) (a 21) (a 22) To), (a 20, eI cI 16 (To 1)), (a 21, eI cI 10 (To 2)), (a 22, eI cI 160 (To 3)), (a 23, oX3 (a 24) (a 25) (a 26)), (a 24, eJ cJ 401 (Ss 0)), (a 25, eJ cJ 401 (Ss 1)), (a 26, eJ cJ 401 (Ss 2)), (a 27, oX0 (a 28) (a 29)), (a 28, eI cI 16 (Dd 0)), (a 29, eI cI 16 (Dd 1)), (a 30, oX0 (a 31) (a 32)), (a 31, eI cI 16 (Dt 0)), (a 32, eI cI 16 (Dt 1))]) (w2 := [(out, eJ cJ 1 f), (a 0, oX5 (a 1) (a 2) (a 3) (a 7) (a 11) (a 27) (a 30) P), (a 1, oX1 rn'), (a 2, oX1 r), (a 3, oX4 (a 2) (a 4) (a 5) (a 6) T), (a 4, eI cI 16 (T 1)), (a 5, eI cI 10 (T 2)), (a 6, eI cI 160 (T 3)), (a 7, oX3 (a 8) (a 9) (a 10)), (a 8, eJ cJ 200 (S 0)), (a 9, eJ cJ 200 (S 1)), (a 10, eJ cJ 200 (S 2)), (a 11, oX2 (a 15) (a 19) (a 23) (a 12) (a 13) (a 14) Q), (a 12, eI cI 401 (Q 1)), (a 13, eI cI 256 (Q 2)), (a 14, eI cI 401 (Q 3)), (a 15, oX4 gt (a 16) (a 17) (a 18) Tt), (a 16, eI cI 16 (Tt 1)), (a 17, eI cI 10 (Tt 2)), (a 18, eI cI 160 (Tt 3)), (a 19, oX4 go (a 20) (a 21) (a 22) To), (a 20, eI cI 16 (To 1)), (a 21, eI cI 10 (To 2)), (a 22, eI cI 160 (To 3)), (a 23, oX3 (a 24) (a 25) (a 26)), (a 24, eJ cJ 401 (Ss 0)), (a 25, eJ cJ 401 (Ss 1)), (a 26, eJ cJ 401 (Ss 2)), (a 27, oX0 (a 28) (a 29)), (a 28, eI cI 16 (Dd 0)), (a 29, eI cI 16 (Dd 1)), (a 30, oX0 (a 31) (a 32)), (a 31, eI cI 16 (Dt 0)), (a 32, eI cI 16 (Dt 1)), (m 0, oX6 (m 1) (m 2) (m 3) (m 4) (m 5) (m 6) (m 7) (m 8) (m 9) (m 10) (m 11) (m 12) (m 13) (m 14) (m 15) I'), (m 1, eI cI 9 (I' 1)), (m 2, eI cI 9 (I' 2)), (m 3, eJ cJ 5 (L 0)), (m 4, eI cI 5 (I' 3)), (m 5, eI cI 5 (I' 4)), (m 6, eI cI 2 (I' 5)), (m 7, eI cI 4 (I' 6)), (m 8, eI cI 8 (I' 7)), (m 9, eI cI 8 (I' 8)), (m 10, eJ cJ 1616 (L 1)), (m 11, eJ cJ 8 (L 2)), (m 12, eJ cJ 3216 (L 3)), (m 13, eJ cJ 3216 (L 4)), (m 14, eI cI 16 (I' 9)), (m 15, eJ cJ 8 (L 5))]) hCF hK (c_X6_stock l D cI cJ (m 0) (m 1) (m 2) (m 3) (m 4) (m 5) (m 6) (m 7) (m 8) (m 9) (m 10) (m 11) (m 12) (m 13) (m 14) (m 15) L I (xs (i + 1)) (xs (i + 2)) (bi (decide (¬ xs (i + 3) = nI 0))) I' hG) (cwV 3 hts (TBL_V0 mw_270 mw_271 mw_272 mw_5 mw_273) rfl rfl rfl pmX6_stock ⟨Nat.le_of_ble_eq_true rfl, Nat.le_of_ble_eq_true rfl⟩) hS hA [34, 35, 36, 37, 38, 39, 40, 41, 42, 43, 44, 45, 46, 47, 48, 49] [0, 1, 2, 3, 4, 5, 6, 7, 8, 9, 10, 11, 12, 13, 14, 15, 16, 17, 18, 19, 20, 21, 22, 23, 24, 25, 26, 27, 28, 29, 30, 31, 32, 33] rfl rfl rfl rfl (by decide) rfl rfl rfl hl.1 rfl (Nat.le_of_ble_eq_true rfl) hc dL_law_315 rfl (fun H locs hS => ?_)
  replace hS : HS D (fun q : Nat => s.heap.size ≤ q) s.heap (WL cI cJ out f a gt go P rn' r T S Q Tt To Ss Dd Dt m I' L) H locs := (hS.sub [0, 1, 2, 3, 4, 5, 6, 7, 8, 9, 10, 11, 12, 13, 14, 15, 16, 17, 18, 19, 20, 21, 22, 23, 24, 25, 26, 27, 28, 29, 30, 31, 32, 33, 34, 35, 36, 37, 38, 39, 40, 41, 42, 43, 44, 45, 46, 47, 48, 49] rfl rfl)
  refine lv_aload_n hx hb dL_law_318 rfl (lv_at hl 3 rfl) ?_
  refine kV_i (As := []) (rest := []) (wr := [(out, eJ cJ 1 f), (a 0, oX5 (a 1) (a 2) (a 3) (a 7) (a 11) (a 27) (a 30) P), (a 1, oX1 rn'), (a 2, oX1 r), (a 3, oX4 (a 2) (a 4) (a 5) (a 6) T), (a 4, eI cI 16 (T 1)), (a 5, eI cI 10 (T 2)), (a 6, eI cI 160 (T 3)), (a 7, oX3 (a 8) (a 9) (a 10)), (a 8, eJ cJ 200 (S 0)), (a 9, eJ cJ 200 (S 1)), (a 10, eJ cJ 200 (S 2)), (a 11, oX2 (a 15) (a 19) (a 23) (a 12) (a 13) (a 14) Q), (a 12, eI cI 401 (Q 1)), (a 13, eI cI 256 (Q 2)), (a 14, eI cI 401 (Q 3)), (a 15, oX4 gt (a 16) (a 17) (a 18) Tt), (a 16, eI cI 16 (Tt 1)), (a 17, eI cI 10 (Tt 2)), (a 18, eI cI 160 (Tt 3)), (a 19, oX4 go (a 20) (a 21) (a 22) To), (a 20, eI cI 16 (To 1)), (a 21, eI cI 10 (To 2)), (a 22, eI cI 160 (To 3)), (a 23, oX3 (a 24) (a 25) (a 26)), (a 24, eJ cJ 401 (Ss 0)), (a 25, eJ cJ 401 (Ss 1)), (a 26, eJ cJ 401 (Ss 2)), (a 27, oX0 (a 28) (a 29)), (a 28, eI cI 16 (Dd 0)), (a 29, eI cI 16 (Dd 1)), (a 30, oX0 (a 31) (a 32)), (a 31, eI cI 16 (Dt 0)), (a 32, eI cI 16 (Dt 1))]) (w2 := [(out, eJ cJ 1 f), (a 0, oX5 (a 1) (a 2) (a 3) (a 7) (a 11) (a 27) (a 30) P), (a 1, oX1 rn'), (a 2, oX1 r), (a 3, oX4 (a 2) (a 4) (a 5) (a 6) T), (a 4, eI cI 16 (T 1)), (a 5, eI cI 10 (T 2)), (a 6, eI cI 160 (T 3)), (a 7, oX3 (a 8) (a 9) (a 10)), (a 8, eJ cJ 200 (S 0)), (a 9, eJ cJ 200 (S 1)), (a 10, eJ cJ 200 (S 2)), (a 11, oX2 (a 15) (a 19) (a 23) (a 12) (a 13) (a 14) Q), (a 12, eI cI 401 (Q 1)), (a 13, eI cI 256 (Q 2)), (a 14, eI cI 401 (Q 3)), (a 15, oX4 gt (a 16) (a 17) (a 18) Tt), (a 16, eI cI 16 (Tt 1)), (a 17, eI cI 10 (Tt 2)), (a 18, eI cI 160 (Tt 3)), (a 19, oX4 go (a 20) (a 21) (a 22) To), (a 20, eI cI 16 (To 1)), (a 21, eI cI 10 (To 2)), (a 22, eI cI 160 (To 3)), (a 23, oX3 (a 24) (a 25) (a 26)), (a 24, eJ cJ 401 (Ss 0)), (a 25, eJ cJ 401 (Ss 1)), (a 26, eJ cJ 401 (Ss 2)), (a 27, oX0 (a 28) (a 29)), (a 28, eI cI 16 (Dd 0)), (a 29, eI cI 16 (Dd 1)), (a 30, oX0 (a 31) (a 32)), (a 31, eI cI 16 (Dt 0)), (a 32, eI cI 16 (Dt 1)), (m 0, oX6 (m 1) (m 2) (m 3) (m 4) (m 5) (m 6) (m 7) (m 8) (m 9) (m 10) (m 11) (m 12) (m 13) (m 14) (m 15) I'), (m 1, eI cI 9 (I' 1)), (m 2, eI cI 9 (I' 2)), (m 3, eJ cJ 5 (L 0)), (m 4, eI cI 5 (I' 3)), (m 5, eI cI 5 (I' 4)), (m 6, eI cI 2 (I' 5)), (m 7, eI cI 4 (I' 6)), (m 8, eI cI 8 (I' 7)), (m 9, eI cI 8 (I' 8)), (m 10, eJ cJ 1616 (L 1)), (m 11, eJ cJ 8 (L 2)), (m 12, eJ cJ 3216 (L 3)), (m 13, eJ cJ 3216 (L 4)), (m 14, eI cI 16 (I' 9)), (m 15, eJ cJ 8 (L 5))]) hCF hK (c_X6_thrown l D cI cJ (m 0) (m 1) (m 2) (m 3) (m 4) (m 5) (m 6) (m 7) (m 8) (m 9) (m 10) (m 11) (m 12) (m 13) (m 14) (m 15) I' L (I' 0 0) rfl) (cwV 0 hts (TBL_V0 mw_242 mw_243 mw_244 mw_5 mw_245) rfl rfl rfl pmX6_thrown ⟨Nat.le_of_ble_eq_true rfl, Nat.le_of_ble_eq_true rfl⟩) hS hA [34, 35, 36, 37, 38, 39, 40, 41, 42, 43, 44, 45, 46, 47, 48, 49] [0, 1, 2, 3, 4, 5, 6, 7, 8, 9, 10, 11, 12, 13, 14, 15, 16, 17, 18, 19, 20, 21, 22, 23, 24, 25, 26, 27, 28, 29, 30, 31, 32, 33] rfl rfl rfl rfl (by decide) rfl rfl rfl hl.1 rfl (Nat.le_of_ble_eq_true rfl) hc dL_law_319 rfl (fun H locs hS => ?_)
  replace hS : HS D (fun q : Nat => s.heap.size ≤ q) s.heap (WL cI cJ out f a gt go P rn' r T S Q Tt To Ss Dd Dt m I' L) H locs := (hS.sub [0, 1, 2, 3, 4, 5, 6, 7, 8, 9, 10, 11, 12, 13, 14, 15, 16, 17, 18, 19, 20, 21, 22, 23, 24, 25, 26, 27, 28, 29, 30, 31, 32, 33, 34, 35, 36, 37, 38, 39, 40, 41, 42, 43, 44, 45, 46, 47, 48, 49] rfl rfl)
  refine lv_iload hx hb dL_law_322 (lv_at hl 0 rfl) ?_
  have e5 : I' 0 0 = hcode ((aStock Z (xs (i + 1)) (xs (i + 2)) (decide (¬ xs (i + 3) = nI 0))).1) := hG0.trans (hc_stock Z (xs (i + 1)) (xs (i + 2)) (decide (¬ xs (i + 3) = nI 0)))
  refine lv_icmp_eq (tgt := 329) hx hb dL_law_324 (by decide) (fun c5 => ?_) (fun c5 => absurd e5 c5)
  refine lv_goto (tgt := 1015) hx hb dL_law_329 (by decide) ?_
  exact kk _ _ _ _ ⟨gt, go, f, P, rn', r, T, S, Q, Tt, To, Ss, Dd, Dt, I', L, hZ', hC', hM', hS⟩ (lv_sub hl [1, 2, 3, 4, 5] rfl)
