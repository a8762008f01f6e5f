set_option maxHeartbeats 4000000 in
set_option maxRecDepth 100000 in
theorem law_10 {p : Program} {l : Launch} {e : Env} {s : State} {m9 : MethodId} {below : List Frame} {meth : Method} {c : Code} {b L0 : Nat} {xs : Nat → Int32} {D : va_G} {cI cJ : ClassId} {Qf : State → Prop} (X : LCx p l s m9 c b L0 xs D cI cJ) {a m : Nat → Nat} {out i cells slots : Nat} {Z : AS} {H : Heap} {locs : List Loc} {ls : Array Slot} (hi : i + 5 ≤ L0) (hc : cells + 1 ≤ room_1.cells ∧ slots + 6 ≤ room_1.slots) (hS : LawSt D cI cJ s a m out Z H locs) (hl : lv_has ls 7 [(4, .int (nI i)), (3, .ref out), (2, .ref (m 0)), (1, .ref (a 0)), (0, .ref b)])
    (kk : ∀ (Z' : AS) (H : Heap) (locs : List Loc) (ls : Array Slot), LawSt D cI cJ s a m out Z' H locs → lv_has ls 7 [(4, .int (nI i)), (3, .ref out), (2, .ref (m 0)), (1, .ref (a 0)), (0, .ref b)] → W p l e room_1 s m9 #[.ref b] below meth c H locs (cells + 1) (slots + 6) Qf (F0 m9 1015 ls [])) : W p l e room_1 s m9 #[.ref b] below meth c H locs cells slots Qf (F0 m9 674 ls []) := by
  obtain ⟨hx, hb, hml, hown, hts, hK, hE, hZ, hX, hbl, hL, hfl⟩ := X
  have hA : ∀ q : Nat, s.heap.size ≤ q → (fun q : Nat => s.heap.size ≤ q) q := fun _ h => h
  have hbA : ¬ (fun q : Nat => s.heap.size ≤ q) b := Nat.not_le.mpr hbl
  have hCF : CallFix p m9 c code 7 s #[.ref b] TBL RL := ⟨hx, hb, hml, hown, hts⟩
  obtain ⟨gt, go, f, P, rn, r, T, S, Q, Tt, To, Ss, Dd, Dt, I, L, hZ0, hC, hM, hS⟩ := hS
  have hF := C_card hZ0 hC (xs (i + 1)) (xs (i + 2))
  obtain ⟨I', hG, hG0, hM'⟩ := M_card hZ0 hM (xs (i + 1)) (xs (i + 2))
  have hZ' : okA (aCard Z (xs (i + 1)) (xs (i + 2))).2.2 := by rw [st_card]; exact hZ0
  have hC' : CSt (aCard Z (xs (i + 1)) (xs (i + 2))).2.2 P rn r Dd T S := by rw [st_card]; exact hC
  refine lv_aload_n hx hb dL_law_674 rfl (lv_at hl 3 rfl) ?_
  refine lv_aload_n hx hb dL_law_675 rfl (lv_at hl 4 rfl) ?_
  refine lv_iload hx hb dL_law_676 (lv_at hl 0 rfl) ?_
  refine lv_iconst (v := (nI 1)) hx hb dL_law_678 (by decide) ?_
  refine lv_iadd hx hb dL_law_679 ?_
  rw [nI_add]
  refine va_sld hx hb hX hbl hbA hS.2.2 (vp_in_nI (by omega) (by omega)) dL_law_680 ?_
  rw [nI_clamp (by omega)]
  refine lv_aload_n hx hb dL_law_681 rfl (lv_at hl 4 rfl) ?_
  refine lv_iload hx hb dL_law_682 (lv_at hl 0 rfl) ?_
  refine lv_iconst (v := (nI 2)) hx hb dL_law_684 (by decide) ?_
  refine lv_iadd hx hb dL_law_685 ?_
  rw [nI_add]
  refine va_sld hx hb hX hbl hbA hS.2.2 (vp_in_nI (by omega) (by omega)) dL_law_686 ?_
  rw [nI_clamp (by omega)]
  refine lv_aload_n hx hb dL_law_687 rfl (lv_at hl 1 rfl) ?_
  refine kH_i (As := [.ref (a 0), .int (xs (i + 1)), .int (xs (i + 2)), .ref out]) (rest := []) (wr := [(a 1, oX1 rn), (a 7, oX3 (a 8) (a 9) (a 10)), (a 8, eJ cJ 200 (S 0)), (a 9, eJ cJ 200 (S 1)), (a 10, eJ cJ 200 (S 2)), (a 11, oX2 (a 15) (a 19) (a 23) (a 12) (a 13) (a 14) Q), (a 12, eI cI 401 (Q 1)), (a 13, eI cI 256 (Q 2)), (a 14, eI cI 401 (Q 3)), (a 15, oX4 gt (a 16) (a 17) (a 18) Tt), (a 16, eI cI 16 (Tt 1)), (a 17, eI cI 10 (Tt 2)), (a 18, eI cI 160 (Tt 3)), (a 19, oX4 go (a 20) (a 21) (a 22) To), (a 20, eI cI 16 (To 1)), (a 21, eI cI 10 (To 2)), (a 22, eI cI 160 (To 3)), (a 23, oX3 (a 24) (a 25) (a 26)), (a 24, eJ cJ 401 (Ss 0)), (a 25, eJ cJ 401 (Ss 1)), (a 26, eJ cJ 401 (Ss 2)), (a 27, oX0 (a 28) (a 29)), (a 28, eI cI 16 (Dd 0)), (a 29, eI cI 16 (Dd 1)), (a 30, oX0 (a 31) (a 32)), (a 31, eI cI 16 (Dt 0)), (a 32, eI cI 16 (Dt 1)), (m 0, oX6 (m 1) (m 2) (m 3) (m 4) (m 5) (m 6) (m 7) (m 8) (m 9) (m 10) (m 11) (m 12) (m 13) (m 14) (m 15) I), (m 1, eI cI 9 (I 1)), (m 2, eI cI 9 (I 2)), (m 3, eJ cJ 5 (L 0)), (m 4, eI cI 5 (I 3)), (m 5, eI cI 5 (I 4)), (m 6, eI cI 2 (I 5)), (m 7, eI cI 4 (I 6)), (m 8, eI cI 8 (I 7)), (m 9, eI cI 8 (I 8)), (m 10, eJ cJ 1616 (L 1)), (m 11, eJ cJ 8 (L 2)), (m 12, eJ cJ 3216 (L 3)), (m 13, eJ cJ 3216 (L 4)), (m 14, eI cI 16 (I 9)), (m 15, eJ cJ 8 (L 5))]) hCF hK hE hZ (h_card l D cI cJ hfl (a 0) (a 3) (a 4) (a 5) (a 6) (a 2) (a 1) (a 7) (a 11) (a 27) (a 30) out P T r (xs (i + 1)) (xs (i + 2)) (aCard Z (xs (i + 1)) (xs (i + 2))).1 (aCard Z (xs (i + 1)) (xs (i + 2))).2.1 hF (th_card Z (xs (i + 1)) (xs (i + 2)))) (vx_cwSW 4 hts (TBL_SW mw_587 mw_588 mw_215 mw_589) rfl rfl rfl pmL_card.2 ⟨Nat.le_of_ble_eq_true rfl, Nat.le_of_ble_eq_true rfl⟩) hS hA [0, 1, 4, 5, 6, 7, 3] [2, 8, 9, 10, 11, 12, 13, 14, 15, 16, 17, 18, 19, 20, 21, 22, 23, 24, 25, 26, 27, 28, 29, 30, 31, 32, 33, 34, 35, 36, 37, 38, 39, 40, 41, 42, 43, 44, 45, 46, 47, 48, 49] rfl rfl rfl rfl (by decide) rfl hl.1 rfl (Nat.le_of_ble_eq_true rfl) hc dL_law_688 (fun H locs u hu hS => ?_)
  replace hS : HS D (fun q : Nat => s.heap.size ≤ q) s.heap (WL cI cJ out u.1 a gt go P rn r T S Q Tt To Ss Dd Dt m I L) H locs := by
    by_cases h0 : (aCard Z (xs (i + 1)) (xs (i + 2))).1 = 0
    · rw [if_pos h0] at hS
      exact (hS.sub [43, 44, 0, 49, 45, 46, 47, 48, 1, 2, 3, 4, 5, 6, 7, 8, 9, 10, 11, 12, 13, 14, 15, 16, 17, 18, 19, 20, 21, 22, 23, 24, 25, 26, 27, 28, 29, 30, 31, 32, 33, 34, 35, 36, 37, 38, 39, 40, 41, 42] rfl rfl)
    · rw [if_neg h0] at hS
      exact (hS.sub [43, 44, 0, 49, 45, 46, 47, 48, 1, 2, 3, 4, 5, 6, 7, 8, 9, 10, 11, 12, 13, 14, 15, 16, 17, 18, 19, 20, 21, 22, 23, 24, 25, 26, 27, 28, 29, 30, 31, 32, 33, 34, 35, 36, 37, 38, 39, 40, 41, 42] rfl rfl)
  refine lv_istore (lv' := [(5, .int (hcode ((aCard Z (xs (i + 1)) (xs (i + 2))).1))), (4, .int (nI i)), (3, .ref out), (2, .ref (m 0)), (1, .ref (a 0)), (0, .ref b)]) hx hb dL_law_691 hl (by decide) rfl (fun ls hl => ?_)
  refine lv_aload_n hx hb dL_law_693 rfl (lv_at hl 3 rfl) ?_
  refine lv_aload_n hx hb dL_law_694 rfl (lv_at hl 5 rfl) ?_
  refine lv_iload hx hb dL_law_695 (lv_at hl 1 rfl) ?_
  refine lv_iconst (v := (nI 1)) hx hb dL_law_697 (by decide) ?_
  refine lv_iadd hx hb dL_law_698 ?_
  rw [nI_add]
  refine va_sld hx hb hX hbl hbA hS.2.2 (vp_in_nI (by omega) (by omega)) dL_law_699 ?_
  rw [nI_clamp (by omega)]
  refine lv_aload_n hx hb dL_law_700 rfl (lv_at hl 5 rfl) ?_
  refine lv_iload hx hb dL_law_701 (lv_at hl 1 rfl) ?_
  refine lv_iconst (v := (nI 2)) hx hb dL_law_703 (by decide) ?_
  refine lv_iadd hx hb dL_law_704 ?_
  rw [nI_add]
  refine va_sld hx hb hX hbl hbA hS.2.2 (vp_in_nI (by omega) (by omega)) dL_law_705 ?_
  rw [nI_clamp (by omega)]
  refine kV_i (As := [.int (xs (i + 1)), .int (xs (i + 2))]) (rest := []) (wr := [(out, eJ cJ 1 u.1), (a 0, oX5 (a 1) (a 2) (a 3) (a 7) (a 11) (a 27) (a 30) P), (a 1, oX1 rn), (a 2, oX1 r), (a 3, oX4 (a 2) (a 4) (a 5) (a 6) T), (a 4, eI cI 16 (T 1)), (a 5, eI cI 10 (T 2)), (a 6, eI cI 160 (T 3)), (a 7, oX3 (a 8) (a 9) (a 10)), (a 8, eJ cJ 200 (S 0)), (a 9, eJ cJ 200 (S 1)), (a 10, eJ cJ 200 (S 2)), (a 11, oX2 (a 15) (a 19) (a 23) (a 12) (a 13) (a 14) Q), (a 12, eI cI 401 (Q 1)), (a 13, eI cI 256 (Q 2)), (a 14, eI cI 401 (Q 3)), (a 15, oX4 gt (a 16) (a 17) (a 18) Tt), (a 16, eI cI 16 (Tt 1)), (a 17, eI cI 10 (Tt 2)), (a 18, eI cI 160 (Tt 3)), (a 19, oX4 go (a 20) (a 21) (a 22) To), (a 20, eI cI 16 (To 1)), (a 21, eI cI 10 (To 2)), (a 22, eI cI 160 (To 3)), (a 23, oX3 (a 24) (a 25) (a 26)), (a 24, eJ cJ 401 (Ss 0)), (a 25, eJ cJ 401 (Ss 1)), (a 26, eJ cJ 401 (Ss 2)), (a 27, oX0 (a 28) (a 29)), (a 28, eI cI 16 (Dd 0)), (a 29, eI cI 16 (Dd 1)), (a 30, oX0 (a 31) (a 32)), (a 31, eI cI 16 (Dt 0)), (a 32, eI cI 16 (Dt 1))]) (w2 := [(out, eJ cJ 1 u.1), (a 0, oX5 (a 1) (a 2) (a 3) (a 7) (a 11) (a 27) (a 30) P), (a 1, oX1 rn), (a 2, oX1 r), (a 3, oX4 (a 2) (a 4) (a 5) (a 6) T), (a 4, eI cI 16 (T 1)), (a 5, eI cI 10 (T 2)), (a 6, eI cI 160 (T 3)), (a 7, oX3 (a 8) (a 9) (a 10)), (a 8, eJ cJ 200 (S 0)), (a 9, eJ cJ 200 (S 1)), (a 10, eJ cJ 200 (S 2)), (a 11, oX2 (a 15) (a 19) (a 23) (a 12) (a 13) (a 14) Q), (a 12, eI cI 401 (Q 1)), (a 13, eI cI 256 (Q 2)), (a 14, eI cI 401 (Q 3)), (a 15, oX4 gt (a 16) (a 17) (a 18) Tt), (a 16, eI cI 16 (Tt 1)), (a 17, eI cI 10 (Tt 2)), (a 18, eI cI 160 (Tt 3)), (a 19, oX4 go (a 20) (a 21) (a 22) To), (a 20, eI cI 16 (To 1)), (a 21, eI cI 10 (To 2)), (a 22, eI cI 160 (To 3)), (a 23, oX3 (a 24) (a 25) (a 26)), (a 24, eJ cJ 401 (Ss 0)), (a 25, eJ cJ 401 (Ss 1)), (a 26, eJ cJ 401 (Ss 2)), (a 27, oX0 (a 28) (a 29)), (a 28, eI cI 16 (Dd 0)), (a 29, eI cI 16 (Dd 1)), (a 30, oX0 (a 31) (a 32)), (a 31, eI cI 16 (Dt 0)), (a 32, eI cI 16 (Dt 1)), (m 0, oX6 (m 1) (m 2) (m 3) (m 4) (m 5) (m 6) (m 7) (m 8) (m 9) (m 10) (m 11) (m 12) (m 13) (m 14) (m 15) I'), (m 1, eI cI 9 (I' 1)), (m 2, eI cI 9 (I' 2)), (m 3, eJ cJ 5 (L 0)), (m 4, eI cI 5 (I' 3)), (m 5, eI cI 5 (I' 4)), (m 6, eI cI 2 (I' 5)), (m 7, eI cI 4 (I' 6)), (m 8, eI cI 8 (I' 7)), (m 9, eI cI 8 (I' 8)), (m 10, eJ cJ 1616 (L 1)), (m 11, eJ cJ 8 (L 2)), (m 12, eJ cJ 3216 (L 3)), (m 13, eJ cJ 3216 (L 4)), (m 14, eI cI 16 (I' 9)), (m 15, eJ cJ 8 (L 5))]) hCF hK (c_X6_card l D cI cJ (m 0) (m 1) (m 2) (m 3) (m 4) (m 5) (m 6) (m 7) (m 8) (m 9) (m 10) (m 11) (m 12) (m 13) (m 14) (m 15) L I (xs (i + 1)) (xs (i + 2)) (aCard Z (xs (i + 1)) (xs (i + 2))).2.1 I' hG) (cwV 2 hts (TBL_V0 mw_609 mw_610 mw_611 mw_5 mw_612) rfl rfl rfl pmX6_card ⟨Nat.le_of_ble_eq_true rfl, Nat.le_of_ble_eq_true rfl⟩) hS hA [34, 35, 36, 37, 38, 39, 40, 41, 42, 43, 44, 45, 46, 47, 48, 49] [0, 1, 2, 3, 4, 5, 6, 7, 8, 9, 10, 11, 12, 13, 14, 15, 16, 17, 18, 19, 20, 21, 22, 23, 24, 25, 26, 27, 28, 29, 30, 31, 32, 33] rfl rfl rfl rfl (by decide) rfl rfl rfl hl.1 rfl (Nat.le_of_ble_eq_true rfl) hc dL_law_706 rfl (fun H locs hS => ?_)
  replace hS : HS D (fun q : Nat => s.heap.size ≤ q) s.heap (WL cI cJ out u.1 a gt go P rn r T S Q Tt To Ss Dd Dt m I' L) H locs := (hS.sub [0, 1, 2, 3, 4, 5, 6, 7, 8, 9, 10, 11, 12, 13, 14, 15, 16, 17, 18, 19, 20, 21, 22, 23, 24, 25, 26, 27, 28, 29, 30, 31, 32, 33, 34, 35, 36, 37, 38, 39, 40, 41, 42, 43, 44, 45, 46, 47, 48, 49] rfl rfl)
  refine lv_istore (lv' := [(6, .int ((aCard Z (xs (i + 1)) (xs (i + 2))).2.1)), (5, .int (hcode ((aCard Z (xs (i + 1)) (xs (i + 2))).1))), (4, .int (nI i)), (3, .ref out), (2, .ref (m 0)), (1, .ref (a 0)), (0, .ref b)]) hx hb dL_law_709 hl (by decide) rfl (fun ls hl => ?_)
  refine lv_aload_n hx hb dL_law_711 rfl (lv_at hl 4 rfl) ?_
  refine kV_i (As := []) (rest := []) (wr := [(out, eJ cJ 1 u.1), (a 0, oX5 (a 1) (a 2) (a 3) (a 7) (a 11) (a 27) (a 30) P), (a 1, oX1 rn), (a 2, oX1 r), (a 3, oX4 (a 2) (a 4) (a 5) (a 6) T), (a 4, eI cI 16 (T 1)), (a 5, eI cI 10 (T 2)), (a 6, eI cI 160 (T 3)), (a 7, oX3 (a 8) (a 9) (a 10)), (a 8, eJ cJ 200 (S 0)), (a 9, eJ cJ 200 (S 1)), (a 10, eJ cJ 200 (S 2)), (a 11, oX2 (a 15) (a 19) (a 23) (a 12) (a 13) (a 14) Q), (a 12, eI cI 401 (Q 1)), (a 13, eI cI 256 (Q 2)), (a 14, eI cI 401 (Q 3)), (a 15, oX4 gt (a 16) (a 17) (a 18) Tt), (a 16, eI cI 16 (Tt 1)), (a 17, eI cI 10 (Tt 2)), (a 18, eI cI 160 (Tt 3)), (a 19, oX4 go (a 20) (a 21) (a 22) To), (a 20, eI cI 16 (To 1)), (a 21, eI cI 10 (To 2)), (a 22, eI cI 160 (To 3)), (a 23, oX3 (a 24) (a 25) (a 26)), (a 24, eJ cJ 401 (Ss 0)), (a 25, eJ cJ 401 (Ss 1)), (a 26, eJ cJ 401 (Ss 2)), (a 27, oX0 (a 28) (a 29)), (a 28, eI cI 16 (Dd 0)), (a 29, eI cI 16 (Dd 1)), (a 30, oX0 (a 31) (a 32)), (a 31, eI cI 16 (Dt 0)), (a 32, eI cI 16 (Dt 1))]) (w2 := [(out, eJ cJ 1 u.1), (a 0, oX5 (a 1) (a 2) (a 3) (a 7) (a 11) (a 27) (a 30) P), (a 1, oX1 rn), (a 2, oX1 r), (a 3, oX4 (a 2) (a 4) (a 5) (a 6) T), (a 4, eI cI 16 (T 1)), (a 5, eI cI 10 (T 2)), (a 6, eI cI 160 (T 3)), (a 7, oX3 (a 8) (a 9) (a 10)), (a 8, eJ cJ 200 (S 0)), (a 9, eJ cJ 200 (S 1)), (a 10, eJ cJ 200 (S 2)), (a 11, oX2 (a 15) (a 19) (a 23) (a 12) (a 13) (a 14) Q), (a 12, eI cI 401 (Q 1)), (a 13, eI cI 256 (Q 2)), (a 14, eI cI 401 (Q 3)), (a 15, oX4 gt (a 16) (a 17) (a 18) Tt), (a 16, eI cI 16 (Tt 1)), (a 17, eI cI 10 (Tt 2)), (a 18, eI cI 160 (Tt 3)), (a 19, oX4 go (a 20) (a 21) (a 22) To), (a 20, eI cI 16 (To 1)), (a 21, eI cI 10 (To 2)), (a 22, eI cI 160 (To 3)), (a 23, oX3 (a 24) (a 25) (a 26)), (a 24, eJ cJ 401 (Ss 0)), (a 25, eJ cJ 401 (Ss 1)), (a 26, eJ cJ 401 (Ss 2)), (a 27, oX0 (a 28) (a 29)), (a 28, eI cI 16 (Dd 0)), (a 29, eI cI 16 (Dd 1)), (a 30, oX0 (a 31) (a 32)), (a 31, eI cI 16 (Dt 0)), (a 32, eI cI 16 (Dt 1)), (m 0, oX6 (m 1) (m 2) (m 3) (m 4) (m 5) (m 6) (m 7) (m 8) (m 9) (m 10) (m 11) (m 12) (m 13) (m 14) (m 15) I'), (m 1, eI cI 9 (I' 1)), (m 2, eI cI 9 (I' 2)), (m 3, eJ cJ 5 (L 0)), (m 4, eI cI 5 (I' 3)), (m 5, eI cI 5 (I' 4)), (m 6, eI cI 2 (I' 5)), (m 7, eI cI 4 (I' 6)), (m 8, eI cI 8 (I' 7)), (m 9, eI cI 8 (I' 8)), (m 10, eJ cJ 1616 (L 1)), (m 11, eJ cJ 8 (L 2)), (m 12, eJ cJ 3216 (L 3)), (m 13, eJ cJ 3216 (L 4)), (m 14, eI cI 16 (I' 9)), (m 15, eJ cJ 8 (L 5))]) hCF hK (c_X6_thrown l D cI cJ (m 0) (m 1) (m 2) (m 3) (m 4) (m 5) (m 6) (m 7) (m 8) (m 9) (m 10) (m 11) (m 12) (m 13) (m 14) (m 15) I' L (I' 0 0) rfl) (cwV 0 hts (TBL_V0 mw_242 mw_243 mw_244 mw_5 mw_245) rfl rfl rfl pmX6_thrown ⟨Nat.le_of_ble_eq_true rfl, Nat.le_of_ble_eq_true rfl⟩) hS hA [34, 35, 36, 37, 38, 39, 40, 41, 42, 43, 44, 45, 46, 47, 48, 49] [0, 1, 2, 3, 4, 5, 6, 7, 8, 9, 10, 11, 12, 13, 14, 15, 16, 17, 18, 19, 20, 21, 22, 23, 24, 25, 26, 27, 28, 29, 30, 31, 32, 33] rfl rfl rfl rfl (by decide) rfl rfl rfl hl.1 rfl (Nat.le_of_ble_eq_true rfl) hc dL_law_712 rfl (fun H locs hS => ?_)
  replace hS : HS D (fun q : Nat => s.heap.size ≤ q) s.heap (WL cI cJ out u.1 a gt go P rn r T S Q Tt To Ss Dd Dt m I' L) H locs := (hS.sub [0, 1, 2, 3, 4, 5, 6, 7, 8, 9, 10, 11, 12, 13, 14, 15, 16, 17, 18, 19, 20, 21, 22, 23, 24, 25, 26, 27, 28, 29, 30, 31, 32, 33, 34, 35, 36, 37, 38, 39, 40, 41, 42, 43, 44, 45, 46, 47, 48, 49] rfl rfl)
  refine lv_iload hx hb dL_law_715 (lv_at hl 1 rfl) ?_
  have e5 : I' 0 0 = hcode ((aCard Z (xs (i + 1)) (xs (i + 2))).1) := hG0.trans (hc_card Z (xs (i + 1)) (xs (i + 2)))
  refine lv_icmp_eq (tgt := 722) hx hb dL_law_717 (by decide) (fun c5 => ?_) (fun c5 => absurd e5 c5)
  refine lv_iload hx hb dL_law_722 (lv_at hl 1 rfl) ?_
  refine lv_if_ne (tgt := 739) hx hb dL_law_724 (by decide) (fun c6 => ?_) (fun c6 => ?_)
  · refine lv_goto (tgt := 1015) hx hb dL_law_739 (by decide) ?_
    exact kk _ _ _ _ ⟨gt, go, u.1, P, rn, r, T, S, Q, Tt, To, Ss, Dd, Dt, I', L, hZ', hC', hM', hS⟩ (lv_sub hl [2, 3, 4, 5, 6] rfl)
  have h0 : (aCard Z (xs (i + 1)) (xs (i + 2))).1 = 0 := hcode_0 c6
  refine lv_aload_n hx hb dL_law_727 rfl (lv_at hl 3 rfl) ?_
  refine lv_iconst (v := (nI 0)) hx hb dL_law_728 (by decide) ?_
  refine r_lald (x := u.1 0) hx hb hK hS 0 rfl rfl (vp_in_nI (by omega) (by omega)) dL_law_729 (by rw [nI_clamp (by omega)]) ?_
  refine lv_iload hx hb dL_law_730 (lv_at hl 0 rfl) ?_
  refine lv_i2l hx hb dL_law_732 rfl ?_
  refine W.lcmp hx hb dL_law_733 ?_
  refine lv_if_eq (tgt := 739) hx hb dL_law_734 (by decide) (fun c7 => ?_) (fun c7 => absurd ((lg_cmp_eq _ _).mpr (hu h0)) c7)
  refine lv_goto (tgt := 1015) hx hb dL_law_739 (by decide) ?_
  exact kk _ _ _ _ ⟨gt, go, u.1, P, rn, r, T, S, Q, Tt, To, Ss, Dd, Dt, I', L, hZ', hC', hM', hS⟩ (lv_sub hl [2, 3, 4, 5, 6] rfl)
