/-! ===== areAlike, isSo, isHinted: what their calls answer ===== -/
theorem nV_nI {k : Nat} (h : k < 2 ^ 31) : nV (nI k) = k := by
  unfold nV
  rw [nI_toInt h]; rfl
theorem inB_nI {k a b : Nat} (h1 : a ≤ k) (h2 : k ≤ b) (hb : b < 2 ^ 31) : inB (nI k) a b = true := by
  unfold inB
  rw [decide_eq_true (nI_le h1 (by omega)), decide_eq_true (nI_le h2 hb)]; rfl
theorem told_val (Z : AS) {k : Nat} (hk : k < 8) : aTold Z (nI k) = (0, toldA Z.2.1 (cur Z.2.2.1) (Z.2.2.1.length - 1) Z.2.2.2.1 Z.2.2.2.2.1 k, Z) := by
  unfold aTold
  rw [if_pos (inB_nI (by omega) (by omega) (by omega)), nV_nI (by omega)]
theorem told_0 (Z : AS) {k : Nat} (hk : k < 8) : (aTold Z (nI k)).1 = 0 := by rw [told_val Z hk]
theorem card_val (Z : AS) {p d : Nat} (hp : p < 10) (hd : d < 2 ^ 31) : aCard Z (nI p) (nI d) = (0, cardA Z.2.1 (cur Z.2.2.1) p d, Z) := by
  have h : okCard (nI p) (nI d) = true := by
    unfold okCard
    rw [inB_nI (by omega) (by omega) (by omega), decide_eq_true (nI_nlt (Nat.zero_le _) hd)]; rfl
  unfold aCard
  rw [if_pos h, nV_nI (by omega), nV_nI hd]
theorem card_0 (Z : AS) {p d : Nat} (hp : p < 10) (hd : d < 2 ^ 31) : (aCard Z (nI p) (nI d)).1 = 0 := by rw [card_val Z hp hd]
theorem card_10 (Z : AS) : ansA (aCard Z (nI 10) (nI 0)) = -99999999 := by
  have h : ¬ okCard (nI 10) (nI 0) = true := by decide
  unfold aCard
  rw [if_neg h]
  exact if_neg (by show ¬ (1 = 0); omega)
theorem moveAt_val (Z : AS) {k : Nat} (hk : k < 2 ^ 31) : aMoveAt Z (nI k) = (0, optI (mvs Z.2.1 (cur Z.2.2.1))[k]?, Z) := by
  unfold aMoveAt
  rw [if_neg (nI_nlt (Nat.zero_le _) hk), nV_nI hk]
theorem moveAt_0 (Z : AS) {k : Nat} (hk : k < 2 ^ 31) : (aMoveAt Z (nI k)).1 = 0 := by rw [moveAt_val Z hk]
theorem search_val (Z : AS) {b : Nat} (h1 : 1 ≤ b) (h2 : b ≤ 400) : aSearch Z (nI b) = (0, (searchA Z.2.1 b (cur Z.2.2.1)).1, Z) := by
  unfold aSearch
  rw [if_pos (inB_nI h1 h2 (by omega)), nV_nI (by omega)]
theorem search_0 (Z : AS) {b : Nat} (h1 : 1 ≤ b) (h2 : b ≤ 400) : (aSearch Z (nI b)).1 = 0 := by rw [search_val Z h1 h2]
theorem hid_told (Z : AS) : (aTold Z (nI 7)).2.1 = nI (hidN (cur Z.2.2.1)) := by rw [told_val Z (by omega)]; rfl
theorem up_told (Z : AS) : (aTold Z (nI 0)).2.1 = nI (upN (cur Z.2.2.1)) := by rw [told_val Z (by omega)]; rfl
theorem done_told (Z : AS) : (aTold Z (nI 1)).2.1 = nI (Z.2.2.1.length - 1) := by rw [told_val Z (by omega)]; rfl
theorem undone_told (Z : AS) : (aTold Z (nI 2)).2.1 = nI Z.2.2.2.1 := by rw [told_val Z (by omega)]; rfl
theorem money_told (Z : AS) : (aTold Z (nI 4)).2.1 = moneyA (cur Z.2.2.1) (Z.2.2.1.length - 1) Z.2.2.2.1 := by rw [told_val Z (by omega)]; rfl
theorem won_told (Z : AS) : (aTold Z (nI 6)).2.1 = bi (wonB Z.2.1 (cur Z.2.2.1)) := by rw [told_val Z (by omega)]; rfl
theorem nI_nm1 {n : Nat} (h : n < 2 ^ 31) : ¬ nI n = -1 := fun e => (nI_negone h).mp e
theorem nI_nm2 {n : Nat} (h : n < 2 ^ 31) : ¬ nI n = -2 := by
  intro e
  have h1 := congrArg Int32.toInt e
  rw [nI_toInt h, show (-2 : Int32).toInt = -2 by decide] at h1
  omega
theorem add_n0 (x : Int32) : x + nI 0 = x := Int32.add_zero x
/-- what the second loop has last seen -/
def LastI (Z : AS) (k : Nat) (x : Int32) : Prop := (k = 0 ∧ x = -1) ∨ ∃ m, 0 < k ∧ (mvs Z.2.1 (cur Z.2.2.1))[k - 1]? = some m ∧ x = nI m
theorem LastI.lt {Z : AS} {k m : Nat} {x : Int32} (h : LastI Z k x) (hm : (mvs Z.2.1 (cur Z.2.2.1))[k]? = some m) : ¬ nI m ≤ x := by
  have hs := mvs_small (List.mem_of_getElem? hm)
  rcases h with ⟨-, rfl⟩ | ⟨m2, h0, h1, rfl⟩
  · intro z; exact (negone_le m (by omega)).mp z
  · have := mvs_lt (show k - 1 < k by omega) h1 hm
    exact nI_ge this (by omega)
theorem code_div {f t n : Nat} (hf : f < 10) (ht : t < 9) (hn : n ≤ 16) : nI (codeN f t n) / nI 1000 = nI f := by
  unfold codeN
  rw [pk_div (by omega) (by omega) (by omega)]; congr 1; omega
theorem code_mid {f t n : Nat} (hf : f < 10) (ht : t < 9) (hn : n ≤ 16) : (nI (codeN f t n) / nI 100 - nI (codeN f t n) / nI 100 / nI 10 * nI 10) = nI t := by
  unfold codeN
  rw [pk_div (by omega) (by omega) (by omega), pk_rem (by omega) (by omega) (by omega)]; congr 1; omega
theorem code_low {f t n : Nat} (hf : f < 10) (ht : t < 9) (hn : n ≤ 16) : (nI (codeN f t n) - nI (codeN f t n) / nI 100 * nI 100) = nI n := by
  unfold codeN
  rw [pk_rem (by omega) (by omega) (by omega)]; congr 1; omega
theorem mv_apart {Z : AS} (hA : okA Z) {m k : Nat} (hm : (mvs Z.2.1 (cur Z.2.2.1))[k]? = some m) : ¬ nI m / nI 1000 = (nI m / nI 100 - nI m / nI 100 / nI 10 * nI 10) := by
  obtain ⟨f, t, n, rfl, b1, b2, b3, b4, b5, b6, b7⟩ := mem_mvs (List.mem_of_getElem? hm)
  rw [code_div b1 b2 b4, code_mid b1 b2 b4, nI_eq (by omega) (by omega)]
  intro z
  subst z
  have := legal_same hA.wf.1 b7
  omega
abbrev wtL_areAlike : List Cond := Cond.code yL_areAlike cL_areAlike 5 (some .boolean) :: TBL
abbrev rmB : Room := { frames := 8, cells := 60, slots := 360, locals := 160 }
set_option maxHeartbeats 4000000 in
set_option maxRecDepth 100000 in
theorem alike_loop {p : Program} {l : Launch} {e : Env} {s : State} {m9 : MethodId} {args : Array Value} {below : List Frame} {meth : Method} {c : Code} {H0 : Heap} {Q9 : State → Prop} {D : va_G} {A : Nat → Prop} {cI cJ : ClassId} (X : Cx p s m9 c args cL_areAlike 5 wtL_areAlike RL D [(cI, .int), (cJ, .long)] A H0) (hfl : l.stackTraces = false) (hE : EXW s) (hZ9 : EXZ A s H0) {a a2 : Nat → Nat} {Z : AS} {v : Int32}
    (kret : ∀ (H : Heap) (locs : List Loc) (pc : Nat) (ls : Array Slot) (r : Int32) (w : PC × PC), r = nI 1 → (okU Z w.1 ∧ okU Z w.2) → HS D A H0 (WU cI cJ a w.1 ++ WU cI cJ a2 w.2) H locs → decode cL_areAlike pc = .ok (.ireturn, 1) → W p l e rmB s m9 args below meth c H locs 60 360 Q9 (F0 m9 pc ls [.int r])) :
    ∀ (n k : Nat) (u u2 : PC) (H : Heap) (locs : List Loc) (ls : Array Slot), k + n = 10 → okU Z u → okU Z u2 → HS D A H0 (WU cI cJ a u ++ WU cI cJ a2 u2) H locs → lv_has ls 5 [(4, .int (nI k)), (3, .int (nI 1)), (2, .int v), (1, .ref (a2 0)), (0, .ref (a 0))] → W p l e rmB s m9 args below meth c H locs (6 * k) (36 * k) Q9 (F0 m9 20 ls []) := by
  have hCF := X.1
  obtain ⟨⟨hx, hb, hml, hown, hts⟩, hK, hA⟩ := X
  have rc : rmB.cells = 60 := rfl
  have rs : rmB.slots = 360 := rfl
  intro n
  induction n with
  | zero =>
    intro k u u2 H locs ls hk hu hu2 hS hl
    obtain rfl : k = 10 := by omega
    refine lv_iload hx hb dL_areAlike_20 (lv_at hl 0 rfl) ?_
    refine lv_bipush (v := (nI 10)) hx hb dL_areAlike_22 (by decide) ?_
    refine lv_icmp_ge (tgt := 105) hx hb dL_areAlike_24 (by decide) (fun _ => ?_) (fun c1 => absurd (nI_le (by omega) (by omega)) c1)
    refine lv_iload_n hx hb dL_areAlike_105 rfl (lv_at hl 1 rfl) ?_
    exact kret _ _ _ _ _ (u, u2) rfl ⟨hu, hu2⟩ hS dL_areAlike_106
  | succ n ih =>
    intro k u u2 H locs ls hk hu hu2 hS hl
    refine lv_iload hx hb dL_areAlike_20 (lv_at hl 0 rfl) ?_
    refine lv_bipush (v := (nI 10)) hx hb dL_areAlike_22 (by decide) ?_
    refine lv_icmp_ge (tgt := 105) hx hb dL_areAlike_24 (by decide) (fun c1 => absurd c1 (nI_ge (by omega) (by omega))) (fun _ => ?_)
    refine lv_iload_n hx hb dL_areAlike_27 rfl (lv_at hl 1 rfl) ?_
    refine lv_if_eq (tgt := 105) hx hb dL_areAlike_28 (by decide) (fun c1 => absurd c1 (by decide)) (fun _ => ?_)
    refine lv_aload_n hx hb dL_areAlike_31 rfl (lv_at hl 4 rfl) ?_
    refine lv_iload hx hb dL_areAlike_32 (lv_at hl 0 rfl) ?_
    refine lv_iload_n hx hb dL_areAlike_34 rfl (lv_at hl 2 rfl) ?_
    refine lv_iconst (v := (nI 3)) hx hb dL_areAlike_35 (by decide) ?_
    refine kS0 (As := [.int v, .int (nI 3)]) (rest := [.int (nI k), .ref (a 0)]) hCF hK (c_low l D _ v (nI 3) (by decide)) (va_cwS 2 hts (TBL_S mw_157 mw_158 mw_152 mw_159) rfl rfl rfl pmL_low.2 ⟨Nat.le_of_ble_eq_true rfl, Nat.le_of_ble_eq_true rfl⟩) hS hA rfl hl.1 rfl (Nat.le_of_ble_eq_true rfl) ⟨by omega, by omega⟩ dL_areAlike_36 (fun H locs hS => ?_)
    refine kU (As := [.ref (a 0), .int (nI k), .int (lowV v (nI 3))]) (rest := []) hCF hK hE hZ9 (hA_card l D cI cJ hfl a hu (nI k) (lowV v (nI 3))) (vx_cwSW 3 hts (TBL_SWc mw_483 mw_484 mw_152 mw_485) rfl rfl rfl pmL_card.2 ⟨Nat.le_of_ble_eq_true rfl, Nat.le_of_ble_eq_true rfl⟩) hS hA rfl hl.1 rfl (Nat.le_of_ble_eq_true rfl) ⟨by omega, by omega⟩ dL_areAlike_39 (fun H locs u hu hS => ?_)
    refine lv_aload_n hx hb dL_areAlike_42 rfl (lv_at hl 3 rfl) ?_
    refine lv_iload hx hb dL_areAlike_43 (lv_at hl 0 rfl) ?_
    refine lv_iload_n hx hb dL_areAlike_45 rfl (lv_at hl 2 rfl) ?_
    refine lv_iconst (v := (nI 3)) hx hb dL_areAlike_46 (by decide) ?_
    refine kS0 (As := [.int v, .int (nI 3)]) (rest := [.int (nI k), .ref (a2 0), .int (ansA (aCard Z (nI k) (lowV v (nI 3))))]) hCF hK (c_low l D _ v (nI 3) (by decide)) (va_cwS 2 hts (TBL_S mw_157 mw_158 mw_152 mw_159) rfl rfl rfl pmL_low.2 ⟨Nat.le_of_ble_eq_true rfl, Nat.le_of_ble_eq_true rfl⟩) hS hA rfl hl.1 rfl (Nat.le_of_ble_eq_true rfl) ⟨by omega, by omega⟩ dL_areAlike_47 (fun H locs hS => ?_)
    refine kU (As := [.ref (a2 0), .int (nI k), .int (lowV v (nI 3))]) (rest := [.int (ansA (aCard Z (nI k) (lowV v (nI 3))))]) hCF hK hE hZ9 (hA_card l D cI cJ hfl a2 hu2 (nI k) (lowV v (nI 3))) (vx_cwSW 3 hts (TBL_SWc mw_483 mw_484 mw_152 mw_485) rfl rfl rfl pmL_card.2 ⟨Nat.le_of_ble_eq_true rfl, Nat.le_of_ble_eq_true rfl⟩) hS.swap hA rfl hl.1 rfl (Nat.le_of_ble_eq_true rfl) ⟨by omega, by omega⟩ dL_areAlike_50 (fun H locs u2 hu2 hS => ?_)
    replace hS := hS.swap
    refine lv_icmp_ne (tgt := 97) hx hb dL_areAlike_53 (by decide) (fun c1 => absurd rfl c1) (fun _ => ?_)
    refine lv_aload_n hx hb dL_areAlike_56 rfl (lv_at hl 4 rfl) ?_
    refine lv_iload hx hb dL_areAlike_57 (lv_at hl 0 rfl) ?_
    refine kU (As := [.ref (a 0), .int (nI k)]) (rest := []) hCF hK hE hZ9 (hA_moveAt l D cI cJ hfl a hu (nI k)) (vx_cwSW 2 hts (TBL_SWc mw_396 mw_397 mw_152 mw_398) rfl rfl rfl pmL_moveAt.2 ⟨Nat.le_of_ble_eq_true rfl, Nat.le_of_ble_eq_true rfl⟩) hS hA rfl hl.1 rfl (Nat.le_of_ble_eq_true rfl) ⟨by omega, by omega⟩ dL_areAlike_59 (fun H locs u hu hS => ?_)
    refine lv_aload_n hx hb dL_areAlike_62 rfl (lv_at hl 3 rfl) ?_
    refine lv_iload hx hb dL_areAlike_63 (lv_at hl 0 rfl) ?_
    refine kU (As := [.ref (a2 0), .int (nI k)]) (rest := [.int (ansA (aMoveAt Z (nI k)))]) hCF hK hE hZ9 (hA_moveAt l D cI cJ hfl a2 hu2 (nI k)) (vx_cwSW 2 hts (TBL_SWc mw_396 mw_397 mw_152 mw_398) rfl rfl rfl pmL_moveAt.2 ⟨Nat.le_of_ble_eq_true rfl, Nat.le_of_ble_eq_true rfl⟩) hS.swap hA rfl hl.1 rfl (Nat.le_of_ble_eq_true rfl) ⟨by omega, by omega⟩ dL_areAlike_65 (fun H locs u2 hu2 hS => ?_)
    replace hS := hS.swap
    refine lv_icmp_ne (tgt := 97) hx hb dL_areAlike_68 (by decide) (fun c1 => absurd rfl c1) (fun _ => ?_)
    refine lv_iload hx hb dL_areAlike_71 (lv_at hl 0 rfl) ?_
    refine lv_bipush (v := (nI 7)) hx hb dL_areAlike_73 (by decide) ?_
    refine lv_icmp_gt (tgt := 93) hx hb dL_areAlike_75 (by decide) (fun _ => ?_) (fun _ => ?_)
    · refine lv_iconst (v := (nI 1)) hx hb dL_areAlike_93 (by decide) ?_
      refine lv_goto (tgt := 98) hx hb dL_areAlike_94 (by decide) ?_
      refine lv_istore_n (lv' := [(3, .int (nI 1)), (4, .int (nI k)), (2, .int v), (1, .ref (a2 0)), (0, .ref (a 0))]) hx hb dL_areAlike_98 rfl hl (by decide) rfl (fun ls hl => ?_)
      refine lv_iinc (v := ((nI k) + nI 1)) (lv' := [(4, .int ((nI k) + nI 1)), (3, .int (nI 1)), (2, .int v), (1, .ref (a2 0)), (0, .ref (a 0))]) hx hb dL_areAlike_99 hl (k := 1) rfl rfl (by decide) rfl (fun ls hl => ?_)
      refine lv_goto (tgt := 20) hx hb dL_areAlike_102 (by decide) ?_
      rw [nI_add] at hl
      refine W.widen (k := 6 * (k + 1)) (n := 36 * (k + 1)) (by omega) (by omega) ?_
      exact ih (k + 1) u u2 _ _ _ (by omega) hu hu2 hS (lv_sub hl [0, 1, 2, 3, 4] rfl)
    · refine lv_aload_n hx hb dL_areAlike_78 rfl (lv_at hl 4 rfl) ?_
      refine lv_iload hx hb dL_areAlike_79 (lv_at hl 0 rfl) ?_
      refine kU (As := [.ref (a 0), .int (nI k)]) (rest := []) hCF hK hE hZ9 (hA_told l D cI cJ hfl a hu (nI k)) (vx_cwSW 2 hts (TBL_SWc mw_459 mw_460 mw_152 mw_461) rfl rfl rfl pmL_told.2 ⟨Nat.le_of_ble_eq_true rfl, Nat.le_of_ble_eq_true rfl⟩) hS hA rfl hl.1 rfl (Nat.le_of_ble_eq_true rfl) ⟨by omega, by omega⟩ dL_areAlike_81 (fun H locs u hu hS => ?_)
      refine lv_aload_n hx hb dL_areAlike_84 rfl (lv_at hl 3 rfl) ?_
      refine lv_iload hx hb dL_areAlike_85 (lv_at hl 0 rfl) ?_
      refine kU (As := [.ref (a2 0), .int (nI k)]) (rest := [.int (ansA (aTold Z (nI k)))]) hCF hK hE hZ9 (hA_told l D cI cJ hfl a2 hu2 (nI k)) (vx_cwSW 2 hts (TBL_SWc mw_459 mw_460 mw_152 mw_461) rfl rfl rfl pmL_told.2 ⟨Nat.le_of_ble_eq_true rfl, Nat.le_of_ble_eq_true rfl⟩) hS.swap hA rfl hl.1 rfl (Nat.le_of_ble_eq_true rfl) ⟨by omega, by omega⟩ dL_areAlike_87 (fun H locs u2 hu2 hS => ?_)
      replace hS := hS.swap
      refine lv_icmp_ne (tgt := 97) hx hb dL_areAlike_90 (by decide) (fun c1 => absurd rfl c1) (fun _ => ?_)
      refine lv_iconst (v := (nI 1)) hx hb dL_areAlike_93 (by decide) ?_
      refine lv_goto (tgt := 98) hx hb dL_areAlike_94 (by decide) ?_
      refine lv_istore_n (lv' := [(3, .int (nI 1)), (4, .int (nI k)), (2, .int v), (1, .ref (a2 0)), (0, .ref (a 0))]) hx hb dL_areAlike_98 rfl hl (by decide) rfl (fun ls hl => ?_)
      refine lv_iinc (v := ((nI k) + nI 1)) (lv' := [(4, .int ((nI k) + nI 1)), (3, .int (nI 1)), (2, .int v), (1, .ref (a2 0)), (0, .ref (a 0))]) hx hb dL_areAlike_99 hl (k := 1) rfl rfl (by decide) rfl (fun ls hl => ?_)
      refine lv_goto (tgt := 20) hx hb dL_areAlike_102 (by decide) ?_
      rw [nI_add] at hl
      refine W.widen (k := 6 * (k + 1)) (n := 36 * (k + 1)) (by omega) (by omega) ?_
      exact ih (k + 1) u u2 _ _ _ (by omega) hu hu2 hS (lv_sub hl [0, 1, 2, 3, 4] rfl)
set_option maxHeartbeats 4000000 in
set_option maxRecDepth 100000 in
theorem alike_ok (l : Launch) (D : va_G) (cI cJ : ClassId) (hfl : l.stackTraces = false) (a a2 : Nat → Nat) {Z : AS} (v : Int32) {u u2 : PC} (hu : okU Z u) (hu2 : okU Z u2) : CtM l D [(cI, .int), (cJ, .long)] yL_areAlike wtL_areAlike rmB [.ref (a 0), .ref (a2 0), .int v] (WU cI cJ a u ++ WU cI cJ a2 u2) (fun w : PC × PC => WU cI cJ a w.1 ++ WU cI cJ a2 w.2) (fun w => okU Z w.1 ∧ okU Z w.2) (nI 1) 60 360 := by
  refine CtM.ofZ (cc := cL_areAlike) (maxL := 5) rfl (by decide) rfl (Nat.le_of_ble_eq_true rfl) (Or.inr rfl) ?_
  intro p e s m9 args below meth c A H0 Q9 ls X hE hZ9 hS hl kret
  have X0 := X
  have hCF := X.1
  obtain ⟨⟨hx, hb, hml, hown, hts⟩, hK, hA⟩ := X
  have hl : lv_has ls 5 [(0, .ref (a 0)), (1, .ref (a2 0)), (2, .int v)] := hl
  refine lv_aload_n hx hb dL_areAlike_0 rfl (lv_at hl 0 rfl) ?_
  refine dX_moves hCF hK hA (cwV 0 hts (TBL_V mw_234 mw_235 mw_236 mw_2 mw_237) rfl rfl rfl pmX5_moves ⟨Nat.le_of_ble_eq_true rfl, Nat.le_of_ble_eq_true rfl⟩) hu hS hl.1 (Nat.le_of_ble_eq_true rfl) ⟨Nat.le_of_ble_eq_true rfl, Nat.le_of_ble_eq_true rfl⟩ dL_areAlike_1 (fun H locs u hu hS => ?_)
  refine lv_aload_n hx hb dL_areAlike_4 rfl (lv_at hl 1 rfl) ?_
  refine dX_moves hCF hK hA (cwV 0 hts (TBL_V mw_234 mw_235 mw_236 mw_2 mw_237) rfl rfl rfl pmX5_moves ⟨Nat.le_of_ble_eq_true rfl, Nat.le_of_ble_eq_true rfl⟩) hu2 hS.swap hl.1 (Nat.le_of_ble_eq_true rfl) ⟨Nat.le_of_ble_eq_true rfl, Nat.le_of_ble_eq_true rfl⟩ dL_areAlike_5 (fun H locs u2 hu2 hS => ?_)
  replace hS := hS.swap
  refine lv_icmp_ne (tgt := 15) hx hb dL_areAlike_8 (by decide) (fun c1 => absurd rfl c1) (fun _ => ?_)
  refine lv_iconst (v := (nI 1)) hx hb dL_areAlike_11 (by decide) ?_
  refine lv_goto (tgt := 16) hx hb dL_areAlike_12 (by decide) ?_
  refine lv_istore_n (lv' := [(3, .int (nI 1)), (0, .ref (a 0)), (1, .ref (a2 0)), (2, .int v)]) hx hb dL_areAlike_16 rfl hl (by decide) rfl (fun ls hl => ?_)
  refine lv_iconst (v := (nI 0)) hx hb dL_areAlike_17 (by decide) ?_
  refine lv_istore (lv' := [(4, .int (nI 0)), (3, .int (nI 1)), (0, .ref (a 0)), (1, .ref (a2 0)), (2, .int v)]) hx hb dL_areAlike_18 hl (by decide) rfl (fun ls hl => ?_)
  exact alike_loop X0 hfl hE hZ9 kret 10 0 u u2 _ _ _ rfl hu hu2 hS (lv_sub hl [0, 1, 4, 3, 2] rfl)
