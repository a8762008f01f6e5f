/-! ===== the law's loop ===== -/
theorem room_c : 601024 ≤ room_1.cells := Nat.le_of_ble_eq_true rfl
theorem room_s : 7293033 ≤ room_1.slots := Nat.le_of_ble_eq_true rfl
set_option maxHeartbeats 4000000 in
set_option maxRecDepth 100000 in
theorem law_step {p : Program} {l : Launch} {e : Env} {s : State} {m9 : MethodId} {below : List Frame} {meth : Method} {c : Code} {b L0 : Nat} {xs : Nat → Int32} {D : va_G} {cI cJ : ClassId} {Qf : State → Prop} (X : LCx p l s m9 c b L0 xs D cI cJ) {a m : Nat → Nat} {out i cells slots : Nat} {Z : AS} {H : Heap} {locs : List Loc} {ls : Array Slot} (hi : i + 5 ≤ L0) (hcc : cells + 1 ≤ 601024) (hcs : slots + 6 ≤ 7293033) (hS : LawSt D cI cJ s a m out Z H locs) (hl : lv_has ls 7 [(4, .int (nI i)), (3, .ref out), (2, .ref (m 0)), (1, .ref (a 0)), (0, .ref b)])
    (step : ∀ (Z' : AS) (H : Heap) (locs : List Loc) (ls : Array Slot), LawSt D cI cJ s a m out Z' H locs → lv_has ls 7 [(4, .int (nI i)), (3, .ref out), (2, .ref (m 0)), (1, .ref (a 0)), (0, .ref b)] → W p l e room_1 s m9 #[.ref b] below meth c H locs (cells + 1) (slots + 6) Qf (F0 m9 1015 ls [])) : W p l e room_1 s m9 #[.ref b] below meth c H locs cells slots Qf (F0 m9 32 ls []) := by
  obtain ⟨hx, hb, hml, hown, hts, hK, hE, hZ, hX, hbl, hL, hfl⟩ := id X
  have hbA : ¬ (fun q : Nat => s.heap.size ≤ q) b := Nat.not_le.mpr hbl
  have hS9 : va_S (fun q : Nat => s.heap.size ≤ q) s.heap H locs := by
    obtain ⟨gt, go, f, P, rn, r, T, S, Q, Tt, To, Ss, Dd, Dt, I, L, -, -, -, hS⟩ := hS
    exact hS.2.2
  have rc := room_c
  have rs := room_s
  refine lv_aload_n hx hb dL_law_32 rfl (lv_at hl 4 rfl) ?_
  refine lv_iload hx hb dL_law_33 (lv_at hl 0 rfl) ?_
  refine va_sld hx hb hX hbl hbA hS9 (vp_in_nI (by omega) (by omega)) dL_law_35 ?_
  rw [nI_clamp (by omega)]
  refine lv_bipush (v := (nI 15)) hx hb dL_law_36 (by decide) ?_
  refine lv_iand hx hb dL_law_38 ?_
  obtain ⟨j, hj16, hj⟩ := pk_andE (xs i) (m := nI 15) 4 (by decide)
  have hjj : j = 0 ∨ j = 1 ∨ j = 2 ∨ j = 3 ∨ j = 4 ∨ j = 5 ∨ j = 6 ∨ j = 7 ∨ j = 8 ∨ j = 9 ∨ j = 10 ∨ j = 11 ∨ j = 12 ∨ j = 13 ∨ j = 14 ∨ j = 15 := by omega
  rcases hjj with rfl | rfl | rfl | rfl | rfl | rfl | rfl | rfl | rfl | rfl | rfl | rfl | rfl | rfl | rfl | rfl
  · have hc9 : xs i &&& nI 15 = nI 0 := hj
    refine lv_tableIn (tgt := 116) hx hb dL_law_39 (by rw [hc9]; decide) (by rw [hc9]; decide) (by rw [hc9]; rfl) (by decide) ?_
    exact law_0 X hi ⟨by omega, by omega⟩ hS hl step
  · have hc9 : xs i &&& nI 15 = nI 1 := hj
    refine lv_tableIn (tgt := 184) hx hb dL_law_39 (by rw [hc9]; decide) (by rw [hc9]; decide) (by rw [hc9]; rfl) (by decide) ?_
    exact law_1 X hi ⟨by omega, by omega⟩ hS hl step
  · have hc9 : xs i &&& nI 15 = nI 2 := hj
    refine lv_tableIn (tgt := 256) hx hb dL_law_39 (by rw [hc9]; decide) (by rw [hc9]; decide) (by rw [hc9]; rfl) (by decide) ?_
    exact law_2 X hi ⟨by omega, by omega⟩ hS hl step
  · have hc9 : xs i &&& nI 15 = nI 3 := hj
    refine lv_tableIn (tgt := 332) hx hb dL_law_39 (by rw [hc9]; decide) (by rw [hc9]; decide) (by rw [hc9]; rfl) (by decide) ?_
    exact law_3 X hi ⟨by omega, by omega⟩ hS hl step
  · have hc9 : xs i &&& nI 15 = nI 4 := hj
    refine lv_tableIn (tgt := 400) hx hb dL_law_39 (by rw [hc9]; decide) (by rw [hc9]; decide) (by rw [hc9]; rfl) (by decide) ?_
    exact law_4 X hi ⟨by omega, by omega⟩ hS hl step
  · have hc9 : xs i &&& nI 15 = nI 5 := hj
    refine lv_tableIn (tgt := 456) hx hb dL_law_39 (by rw [hc9]; decide) (by rw [hc9]; decide) (by rw [hc9]; rfl) (by decide) ?_
    exact law_5 X hi ⟨by omega, by omega⟩ hS hl step
  · have hc9 : xs i &&& nI 15 = nI 6 := hj
    refine lv_tableIn (tgt := 536) hx hb dL_law_39 (by rw [hc9]; decide) (by rw [hc9]; decide) (by rw [hc9]; rfl) (by decide) ?_
    exact law_6 X hi ⟨by omega, by omega⟩ hS hl step
  · have hc9 : xs i &&& nI 15 = nI 7 := hj
    refine lv_tableIn (tgt := 592) hx hb dL_law_39 (by rw [hc9]; decide) (by rw [hc9]; decide) (by rw [hc9]; rfl) (by decide) ?_
    exact law_7 X hi ⟨by omega, by omega⟩ hS hl step
  · have hc9 : xs i &&& nI 15 = nI 8 := hj
    refine lv_tableIn (tgt := 605) hx hb dL_law_39 (by rw [hc9]; decide) (by rw [hc9]; decide) (by rw [hc9]; rfl) (by decide) ?_
    exact law_8 X hi ⟨by omega, by omega⟩ hS hl step
  · have hc9 : xs i &&& nI 15 = nI 9 := hj
    refine lv_tableIn (tgt := 618) hx hb dL_law_39 (by rw [hc9]; decide) (by rw [hc9]; decide) (by rw [hc9]; rfl) (by decide) ?_
    exact law_9 X hi ⟨by omega, by omega⟩ hS hl step
  · have hc9 : xs i &&& nI 15 = nI 10 := hj
    refine lv_tableIn (tgt := 674) hx hb dL_law_39 (by rw [hc9]; decide) (by rw [hc9]; decide) (by rw [hc9]; rfl) (by decide) ?_
    exact law_10 X hi ⟨by omega, by omega⟩ hS hl step
  · have hc9 : xs i &&& nI 15 = nI 11 := hj
    refine lv_tableIn (tgt := 742) hx hb dL_law_39 (by rw [hc9]; decide) (by rw [hc9]; decide) (by rw [hc9]; rfl) (by decide) ?_
    exact law_11 X hi ⟨by omega, by omega⟩ hS hl step
  · have hc9 : xs i &&& nI 15 = nI 12 := hj
    refine lv_tableIn (tgt := 798) hx hb dL_law_39 (by rw [hc9]; decide) (by rw [hc9]; decide) (by rw [hc9]; rfl) (by decide) ?_
    exact law_12 X hi ⟨by omega, by omega⟩ hS hl step
  · have hc9 : xs i &&& nI 15 = nI 13 := hj
    refine lv_tableIn (tgt := 854) hx hb dL_law_39 (by rw [hc9]; decide) (by rw [hc9]; decide) (by rw [hc9]; rfl) (by decide) ?_
    exact law_13 X hi ⟨by omega, by omega⟩ hS hl step
  · have hc9 : xs i &&& nI 15 = nI 14 := hj
    refine lv_tableIn (tgt := 910) hx hb dL_law_39 (by rw [hc9]; decide) (by rw [hc9]; decide) (by rw [hc9]; rfl) (by decide) ?_
    exact law_14 X hi ⟨by omega, by omega⟩ hS hl step
  · have hc9 : xs i &&& nI 15 = nI 15 := hj
    refine lv_tableIn (tgt := 923) hx hb dL_law_39 (by rw [hc9]; decide) (by rw [hc9]; decide) (by rw [hc9]; rfl) (by decide) ?_
    exact law_15 X hi ⟨by omega, by omega⟩ hS hl step
theorem law_end {L0 i : Nat} (hL : L0 ≤ 2560) (h : L0 < i + 5) (hi : i < 10000 := by omega) : Int32.ofNat L0 - nI 5 < nI i := by
  show nI L0 - nI 5 < nI i
  rcases Nat.lt_or_ge L0 5 with q | q
  · exact Int32.lt_of_lt_of_le (pk_sneg (by omega) q) (nI_le (Nat.zero_le i) (by omega))
  · rw [pk_sub q]; exact nI_lt (by omega) (by omega)
theorem law_loop {p : Program} {l : Launch} {e : Env} {s : State} {m9 : MethodId} {below : List Frame} {meth : Method} {c : Code} {b L0 : Nat} {xs : Nat → Int32} {D : va_G} {cI cJ : ClassId} {Qf : State → Prop} (X : LCx p l s m9 c b L0 xs D cI cJ) {a m : Nat → Nat} {out c0 s0 : Nat} (hc0 : c0 + 600 ≤ 601024) (hs0 : s0 + 3600 ≤ 7293033)
    (fin : ∀ (H : Heap) (locs : List Loc) (ls : Array Slot) (cells slots : Nat), cells ≤ 601024 → slots ≤ 7293033 → (∀ q ∈ locs, s.heap.size ≤ q.base) → W p l e room_1 s m9 #[.ref b] below meth c H locs cells slots Qf (F0 m9 1021 ls [])) :
    ∀ (n k : Nat) (Z : AS) (H : Heap) (locs : List Loc) (ls : Array Slot), k + n = 513 → LawSt D cI cJ s a m out Z H locs → lv_has ls 7 [(4, .int (nI (5 * k))), (3, .ref out), (2, .ref (m 0)), (1, .ref (a 0)), (0, .ref b)] → W p l e room_1 s m9 #[.ref b] below meth c H locs (c0 + k) (s0 + 6 * k) Qf (F0 m9 23 ls []) := by
  intro n
  induction n with
  | zero =>
    intro k Z H locs ls hk hS hl
    obtain ⟨hx, hb, hml, hown, hts, hK, hE, hZ, hX, hbl, hL, hfl⟩ := id X
    have hbA : ¬ (fun q : Nat => s.heap.size ≤ q) b := Nat.not_le.mpr hbl
    have hS9 : va_S (fun q : Nat => s.heap.size ≤ q) s.heap H locs := by
      obtain ⟨gt, go, f, P, rn, r, T, S, Q, Tt, To, Ss, Dd, Dt, I, L, -, -, -, hS⟩ := hS
      exact hS.2.2
    refine lv_iload hx hb dL_law_23 (lv_at hl 0 rfl) ?_
    refine lv_aload_n hx hb dL_law_25 rfl (lv_at hl 4 rfl) ?_
    refine va_slen hx hb hX hbl hbA hS9 dL_law_26 ?_
    refine lv_iconst (v := (nI 5)) hx hb dL_law_27 (by decide) ?_
    refine lv_isub hx hb dL_law_28 ?_
    refine lv_icmp_gt (tgt := 1021) hx hb dL_law_29 (by decide) (fun c1 => ?_) (fun c1 => ?_)
    · exact fin H locs ls _ _ (by omega) (by omega) hS9.2.2
    · exact absurd (law_end hL (by omega)) c1
  | succ n ih =>
    intro k Z H locs ls hk hS hl
    obtain ⟨hx, hb, hml, hown, hts, hK, hE, hZ, hX, hbl, hL, hfl⟩ := id X
    have hbA : ¬ (fun q : Nat => s.heap.size ≤ q) b := Nat.not_le.mpr hbl
    have hS9 : va_S (fun q : Nat => s.heap.size ≤ q) s.heap H locs := by
      obtain ⟨gt, go, f, P, rn, r, T, S, Q, Tt, To, Ss, Dd, Dt, I, L, -, -, -, hS⟩ := hS
      exact hS.2.2
    refine lv_iload hx hb dL_law_23 (lv_at hl 0 rfl) ?_
    refine lv_aload_n hx hb dL_law_25 rfl (lv_at hl 4 rfl) ?_
    refine va_slen hx hb hX hbl hbA hS9 dL_law_26 ?_
    refine lv_iconst (v := (nI 5)) hx hb dL_law_27 (by decide) ?_
    refine lv_isub hx hb dL_law_28 ?_
    refine lv_icmp_gt (tgt := 1021) hx hb dL_law_29 (by decide) (fun c1 => ?_) (fun c1 => ?_)
    · exact fin H locs ls _ _ (by omega) (by omega) hS9.2.2
    · have hi : 5 * k + 5 ≤ L0 := by
        rcases Nat.lt_or_ge L0 (5 * k + 5) with q | q
        · exact absurd (law_end hL q) c1
        · exact q
      refine law_step X hi (by omega) (by omega) hS hl (fun Z' H locs ls hS hl => ?_)
      refine lv_iinc (v := nI (5 * k) + nI 5) (lv' := [(4, .int (nI (5 * k) + nI 5)), (3, .ref out), (2, .ref (m 0)), (1, .ref (a 0)), (0, .ref b)]) hx hb dL_law_1015 hl (k := 0) rfl rfl (by decide) rfl (fun ls hl => ?_)
      refine lv_goto (tgt := 23) hx hb dL_law_1018 (by decide) ?_
      rw [nI_add] at hl
      exact ih (k + 1) Z' H locs ls (by omega) hS hl
