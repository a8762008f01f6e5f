/-! ===== the law's body; written by program out of the bytecode ===== -/
def LCx (p : Program) (l : Launch) (s : State) (m : MethodId) (c : Code) (b L : Nat) (xs : Nat → Int32) (D : va_G) (cI cJ : ClassId) : Prop :=
  p.tables.exec = Jvm.exec ∧ c.code = code ∧ c.maxLocals = 6 ∧ s.vm.findClass RL = some m.cls ∧ (∀ w ∈ TBL, w.before #[Value.ref b] s = true) ∧ KN D [(cI, .int), (cJ, .long)] s ∧ EXW s ∧ EXZ (fun q : Nat => s.heap.size ≤ q) s s.heap ∧ va_X b L xs s s.heap ∧ b < s.heap.size ∧ L ≤ 260 ∧ l.stackTraces = false
theorem room_c : 600104 ≤ room_1.cells := Nat.le_of_ble_eq_true rfl
theorem room_s : 7301314 ≤ room_1.slots := Nat.le_of_ble_eq_true rfl
set_option maxHeartbeats 4000000 in
set_option maxRecDepth 100000 in
theorem law_tail {p : Program} {l : Launch} {e : Env} {s : State} {m9 : MethodId} {below : List Frame} {meth : Method} {c : Code} {b L0 : Nat} {xs : Nat → Int32} {D : va_G} {cI cJ : ClassId} {Qf : State → Prop} (X : LCx p l s m9 c b L0 xs D cI cJ) {a a2 : Nat → Nat} {c0 s0 k : Nat} {v r : Int32} (hk : k < 90) (hc0 : c0 + 6000 ≤ 600104) (hs0 : s0 + 36000 ≤ 7301314) {Zn : AS}
    (next : ∀ (Z : AS) (u u2 : PC) (H : Heap) (locs : List Loc) (ls : Array Slot), okU Z u → okU Z u2 → HS D (fun q : Nat => s.heap.size ≤ q) s.heap (WU cI cJ a u ++ WU cI cJ a2 u2) H locs → lv_has ls 6 [(3, .int (nI (k + 1))), (2, .ref (a2 0)), (1, .ref (a 0)), (0, .ref b)] → W p l e room_1 s m9 #[.ref b] below meth c H locs (c0 + 64 * (k + 1)) (s0 + 384 * (k + 1)) Qf (F0 m9 18 ls []))
    {u u2 : PC} {H : Heap} {locs : List Loc} {ls : Array Slot} (hu : okU Zn u) (hu2 : okU Zn u2) (hS : HS D (fun q : Nat => s.heap.size ≤ q) s.heap (WU cI cJ a u ++ WU cI cJ a2 u2) H locs) (hl : lv_has ls 6 [(5, .int r), (4, .int v), (3, .int (nI k)), (2, .ref (a2 0)), (1, .ref (a 0)), (0, .ref b)]) : W p l e room_1 s m9 #[.ref b] below meth c H locs (c0 + 64 * k + 4) (s0 + 384 * k + 24) Qf (F0 m9 59 ls []) := by
  obtain ⟨hx, hb, hml, hown, hts, hK, hE, hZ9, hX, hbl, hL, hfl⟩ := id X
  have hA : ∀ q : Nat, s.heap.size ≤ q → (fun q : Nat => s.heap.size ≤ q) q := fun _ h => h
  have hbA : ¬ (fun q : Nat => s.heap.size ≤ q) b := Nat.not_le.mpr hbl
  have hCF : CallFix p m9 c code 6 s #[.ref b] TBL RL := ⟨hx, hb, hml, hown, hts⟩
  have rc := room_c
  have rs := room_s
  refine lv_iload_n hx hb dL_law_59 rfl (lv_at hl 2 rfl) ?_
  refine lv_bipush (v := (nI 30)) hx hb dL_law_60 (by decide) ?_
  refine lv_irem hx hb dL_law_62 (by decide) ?_
  refine lv_bipush (v := (nI 29)) hx hb dL_law_63 (by decide) ?_
  refine lv_icmp_ne (tgt := 82) hx hb dL_law_65 (by decide) (fun _ => ?_) (fun _ => ?_)
  · refine lv_iinc (v := ((nI k) + nI 1)) (lv' := [(3, .int ((nI k) + nI 1)), (5, .int r), (4, .int v), (2, .ref (a2 0)), (1, .ref (a 0)), (0, .ref b)]) hx hb dL_law_82 hl (k := 2) rfl rfl (by decide) rfl (fun ls hl => ?_)
    refine lv_goto (tgt := 18) hx hb dL_law_85 (by decide) ?_
    rw [nI_add] at hl
    refine W.widen (k := c0 + 64 * (k + 1)) (n := s0 + 384 * (k + 1)) (by omega) (by omega) ?_
    exact next Zn _ _ _ _ _ hu hu2 hS (lv_sub hl [0, 3, 4, 5] rfl)
  · refine lv_aload_n hx hb dL_law_68 rfl (lv_at hl 4 rfl) ?_
    refine lv_aload_n hx hb dL_law_69 rfl (lv_at hl 3 rfl) ?_
    refine lv_iload hx hb dL_law_70 (lv_at hl 1 rfl) ?_
    refine lv_iconst (v := (nI 3)) hx hb dL_law_72 (by decide) ?_
    refine lv_ishr hx hb dL_law_73 ?_
    refine kM (As := [.ref (a 0), .ref (a2 0), .int (v >>> ((nI 3) &&& 31))]) (rest := []) hCF hK hE hZ9 (alike_ok l D cI cJ hfl a a2 (v >>> ((nI 3) &&& 31)) hu hu2) (va_cwS 3 hts (TBL_S0 mw_505 mw_506 mw_152 mw_507) rfl rfl rfl pmL_areAlike.2 ⟨Nat.le_of_ble_eq_true rfl, Nat.le_of_ble_eq_true rfl⟩) (HS.cast hS (List.append_nil _).symm) hA rfl hl.1 rfl (Nat.le_of_ble_eq_true rfl) ⟨by omega, by omega⟩ dL_law_74 (fun H locs w hw hS => ?_)
    rw [List.append_nil] at hS
    obtain ⟨hu, hu2⟩ := hw
    refine lv_if_ne (tgt := 82) hx hb dL_law_77 (by decide) (fun _ => ?_) (fun c1 => absurd c1 (by decide))
    refine lv_iinc (v := ((nI k) + nI 1)) (lv' := [(3, .int ((nI k) + nI 1)), (5, .int r), (4, .int v), (2, .ref (a2 0)), (1, .ref (a 0)), (0, .ref b)]) hx hb dL_law_82 hl (k := 2) rfl rfl (by decide) rfl (fun ls hl => ?_)
    refine lv_goto (tgt := 18) hx hb dL_law_85 (by decide) ?_
    rw [nI_add] at hl
    refine W.widen (k := c0 + 64 * (k + 1)) (n := s0 + 384 * (k + 1)) (by omega) (by omega) ?_
    exact next Zn _ _ _ _ _ hu hu2 hS (lv_sub hl [0, 3, 4, 5] rfl)
set_option maxHeartbeats 4000000 in
set_option maxRecDepth 100000 in
theorem law_loop {p : Program} {l : Launch} {e : Env} {s : State} {m9 : MethodId} {below : List Frame} {meth : Method} {c : Code} {b L0 : Nat} {xs : Nat → Int32} {D : va_G} {cI cJ : ClassId} {Qf : State → Prop} (X : LCx p l s m9 c b L0 xs D cI cJ) {a a2 : Nat → Nat} {c0 s0 : Nat} (hc0 : c0 + 6000 ≤ 600104) (hs0 : s0 + 36000 ≤ 7301314)
    (fin : ∀ (Z : AS) (u u2 : PC) (H : Heap) (locs : List Loc) (ls : Array Slot), okU Z u → okU Z u2 → HS D (fun q : Nat => s.heap.size ≤ q) s.heap (WU cI cJ a u ++ WU cI cJ a2 u2) H locs → lv_has ls 6 [(3, .int (nI 90)), (2, .ref (a2 0)), (1, .ref (a 0)), (0, .ref b)] → W p l e room_1 s m9 #[.ref b] below meth c H locs (c0 + 64 * 90) (s0 + 384 * 90) Qf (F0 m9 88 ls [])) :
    ∀ (n k : Nat) (Z : AS) (u u2 : PC) (H : Heap) (locs : List Loc) (ls : Array Slot), k + n = 90 → okU Z u → okU Z u2 → HS D (fun q : Nat => s.heap.size ≤ q) s.heap (WU cI cJ a u ++ WU cI cJ a2 u2) H locs → lv_has ls 6 [(3, .int (nI k)), (2, .ref (a2 0)), (1, .ref (a 0)), (0, .ref b)] → W p l e room_1 s m9 #[.ref b] below meth c H locs (c0 + 64 * k) (s0 + 384 * k) Qf (F0 m9 18 ls []) := by
  obtain ⟨hx, hb, hml, hown, hts, hK, hE, hZ9, hX, hbl, hL, hfl⟩ := id X
  have hA : ∀ q : Nat, s.heap.size ≤ q → (fun q : Nat => s.heap.size ≤ q) q := fun _ h => h
  have hbA : ¬ (fun q : Nat => s.heap.size ≤ q) b := Nat.not_le.mpr hbl
  have hCF : CallFix p m9 c code 6 s #[.ref b] TBL RL := ⟨hx, hb, hml, hown, hts⟩
  have rc := room_c
  have rs := room_s
  intro n
  induction n with
  | zero =>
    intro k Z u u2 H locs ls hk hu hu2 hS hl
    obtain rfl : k = 90 := by omega
    refine lv_iload_n hx hb dL_law_18 rfl (lv_at hl 0 rfl) ?_
    refine lv_bipush (v := (nI 90)) hx hb dL_law_19 (by decide) ?_
    refine lv_icmp_ge (tgt := 88) hx hb dL_law_21 (by decide) (fun _ => ?_) (fun c1 => absurd (nI_le (by omega) (by omega)) c1)
    exact fin Z u u2 H locs ls hu hu2 hS hl
  | succ n ih =>
    intro k Z u u2 H locs ls hk hu hu2 hS hl
    refine lv_iload_n hx hb dL_law_18 rfl (lv_at hl 0 rfl) ?_
    refine lv_bipush (v := (nI 90)) hx hb dL_law_19 (by decide) ?_
    refine lv_icmp_ge (tgt := 88) hx hb dL_law_21 (by decide) (fun c1 => absurd c1 (nI_ge (by omega) (by omega))) (fun _ => ?_)
    refine lv_aload_n hx hb dL_law_24 rfl (lv_at hl 3 rfl) ?_
    refine lv_iload_n hx hb dL_law_25 rfl (lv_at hl 0 rfl) ?_
    refine kC (As := [.ref b, .int (nI k)]) (rest := []) hCF hK (c_cell l D _ b L0 xs hL k (by omega)) (va_cwS 2 hts (TBL_S0 mw_150 mw_151 mw_152 mw_153) rfl rfl rfl pmL_cell.2 ⟨Nat.le_of_ble_eq_true rfl, Nat.le_of_ble_eq_true rfl⟩) hX hbl hbA hS hA rfl hl.1 rfl (Nat.le_of_ble_eq_true rfl) ⟨by omega, by omega⟩ dL_law_26 (fun H locs hS => ?_)
    generalize cellV L0 xs k = v
    refine lv_istore (lv' := [(4, .int v), (3, .int (nI k)), (2, .ref (a2 0)), (1, .ref (a 0)), (0, .ref b)]) hx hb dL_law_29 hl (by decide) rfl (fun ls hl => ?_)
    refine lv_aload_n hx hb dL_law_31 rfl (lv_at hl 3 rfl) ?_
    refine lv_iload hx hb dL_law_32 (lv_at hl 0 rfl) ?_
    refine lv_iload_n hx hb dL_law_34 rfl (lv_at hl 1 rfl) ?_
    obtain ⟨r, Z2, h1, h3⟩ := act_spec hu.1 v (nI k)
    refine kM (As := [.ref (a 0), .int v, .int (nI k)]) (rest := []) hCF hK hE hZ9 (h3 l D cI cJ hfl a u hu) (va_cwS 3 hts (TBL_S0 mw_154 mw_155 mw_152 mw_156) rfl rfl rfl pmL_act.2 ⟨Nat.le_of_ble_eq_true rfl, Nat.le_of_ble_eq_true rfl⟩) hS hA rfl hl.1 rfl (Nat.le_of_ble_eq_true rfl) ⟨by omega, by omega⟩ dL_law_35 (fun H locs u hu hS => ?_)
    refine lv_istore (lv' := [(5, .int r), (4, .int v), (3, .int (nI k)), (2, .ref (a2 0)), (1, .ref (a 0)), (0, .ref b)]) hx hb dL_law_38 hl (by decide) rfl (fun ls hl => ?_)
    refine lv_iload hx hb dL_law_40 (lv_at hl 0 rfl) ?_
    refine lv_ldc (v := -99999999) hx hb hown (hts (.constant RL 16 (-99999999)) mw_3) dL_law_42 ?_
    refine lv_icmp_eq (tgt := 59) hx hb dL_law_44 (by decide) (fun e9 => ?_) (fun _ => ?_)
    · rw [h1 e9] at hu
      refine W.widen (k := c0 + 64 * k + 4) (n := s0 + 384 * k + 24) (by omega) (by omega) ?_
      exact law_tail X (by omega) hc0 hs0 (fun Z u u2 H locs ls hu hu2 hS hl => ih (k + 1) Z u u2 H locs ls (by omega) hu hu2 hS hl) hu hu2 hS (lv_sub hl [0, 1, 2, 3, 4, 5] rfl)
    · refine lv_aload_n hx hb dL_law_47 rfl (lv_at hl 3 rfl) ?_
      refine lv_iload hx hb dL_law_48 (lv_at hl 1 rfl) ?_
      refine lv_iload_n hx hb dL_law_50 rfl (lv_at hl 2 rfl) ?_
      refine kM (As := [.ref (a2 0), .int v, .int (nI k)]) (rest := []) hCF hK hE hZ9 (h3 l D cI cJ hfl a2 u2 hu2) (va_cwS 3 hts (TBL_S0 mw_154 mw_155 mw_152 mw_156) rfl rfl rfl pmL_act.2 ⟨Nat.le_of_ble_eq_true rfl, Nat.le_of_ble_eq_true rfl⟩) hS.swap hA rfl hl.1 rfl (Nat.le_of_ble_eq_true rfl) ⟨by omega, by omega⟩ dL_law_51 (fun H locs u2 hu2 hS => ?_)
      replace hS := hS.swap
      refine lv_iload hx hb dL_law_54 (lv_at hl 0 rfl) ?_
      refine lv_icmp_ne (tgt := 80) hx hb dL_law_56 (by decide) (fun c1 => absurd rfl c1) (fun _ => ?_)
      exact law_tail X (by omega) hc0 hs0 (fun Z u u2 H locs ls hu hu2 hS hl => ih (k + 1) Z u u2 H locs ls (by omega) hu hu2 hS hl) hu hu2 hS (lv_sub hl [0, 1, 2, 3, 4, 5] rfl)
set_option maxHeartbeats 4000000 in
set_option maxRecDepth 100000 in
theorem law_end {p : Program} {l : Launch} {e : Env} {s : State} {m9 : MethodId} {below : List Frame} {meth : Method} {c : Code} {b L0 : Nat} {xs : Nat → Int32} {D : va_G} {cI cJ : ClassId} {Qf : State → Prop} (X : LCx p l s m9 c b L0 xs D cI cJ) {a a2 : Nat → Nat} {cells slots : Nat} (hc : cells + 500 ≤ 600104) (hs : slots + 3000 ≤ 7301314)
    (kend : ∀ (H : Heap) (locs : List Loc) (ls : Array Slot) (cells slots : Nat), cells ≤ 600104 → slots ≤ 7301314 → (∀ q ∈ locs, s.heap.size ≤ q.base) → W p l e room_1 s m9 #[.ref b] below meth c H locs cells slots Qf (F0 m9 118 ls [.int 1]))
    {Z : AS} {u u2 : PC} {H : Heap} {locs : List Loc} {ls : Array Slot} (hu : okU Z u) (hS : HS D (fun q : Nat => s.heap.size ≤ q) s.heap (WU cI cJ a u ++ WU cI cJ a2 u2) H locs) (hl : lv_has ls 6 [(3, .int (nI 90)), (2, .ref (a2 0)), (1, .ref (a 0)), (0, .ref b)]) : W p l e room_1 s m9 #[.ref b] below meth c H locs cells slots Qf (F0 m9 88 ls []) := by
  obtain ⟨hx, hb, hml, hown, hts, hK, hE, hZ9, hX, hbl, hL, hfl⟩ := id X
  have hA : ∀ q : Nat, s.heap.size ≤ q → (fun q : Nat => s.heap.size ≤ q) q := fun _ h => h
  have hbA : ¬ (fun q : Nat => s.heap.size ≤ q) b := Nat.not_le.mpr hbl
  have hCF : CallFix p m9 c code 6 s #[.ref b] TBL RL := ⟨hx, hb, hml, hown, hts⟩
  have rc := room_c
  have rs := room_s
  refine lv_aload_n hx hb dL_law_88 rfl (lv_at hl 2 rfl) ?_
  refine kM (As := [.ref (a 0)]) (rest := []) hCF hK hE hZ9 (so_ok l D cI cJ hfl a hu) (va_cwS 1 hts (TBL_S0 mw_508 mw_509 mw_152 mw_510) rfl rfl rfl pmL_isSo.2 ⟨Nat.le_of_ble_eq_true rfl, Nat.le_of_ble_eq_true rfl⟩) hS hA rfl hl.1 rfl (Nat.le_of_ble_eq_true rfl) ⟨by omega, by omega⟩ dL_law_89 (fun H locs u hu hS => ?_)
  refine lv_if_eq (tgt := 117) hx hb dL_law_92 (by decide) (fun c1 => absurd c1 (by decide)) (fun _ => ?_)
  refine lv_aload_n hx hb dL_law_95 rfl (lv_at hl 2 rfl) ?_
  refine lv_iconst (v := (nI 1)) hx hb dL_law_96 (by decide) ?_
  refine dX_told hCF hK hA hfl hE hZ9 (nI 1) (cwV 1 hts (TBL_V0 mw_462 mw_463 mw_464 mw_2 mw_465) rfl rfl rfl pmX5_told ⟨Nat.le_of_ble_eq_true rfl, Nat.le_of_ble_eq_true rfl⟩) hu hS hl.1 (Nat.le_of_ble_eq_true rfl) ⟨by omega, by omega⟩ dL_law_97 (fun H locs q9 ce u' hth _ _ _ _ _ => absurd hth (by rw [(told_0 Z (by omega))]; omega)) (fun H locs u _ hu hS => ?_)
  refine lv_sipush (v := (nI 200)) hx hb dL_law_100 (by decide) ?_
  refine lv_icmp_eq (tgt := 113) hx hb dL_law_103 (by decide) (fun _ => ?_) (fun e9 => ?_)
  · refine lv_iconst (v := 1) hx hb dL_law_113 (by decide) ?_
    refine lv_goto (tgt := 118) hx hb dL_law_114 (by decide) ?_
    exact kend H locs ls _ _ (by omega) (by omega) hS.2.2.2.2
  · have hlen := hu.1.2.2.2.1
    have hd : Z.2.2.1.length ≤ 200 := by
      rcases Nat.lt_or_ge Z.2.2.1.length 201 with q | q
      · omega
      · exact absurd (by rw [done_told, show Z.2.2.1.length - 1 = 200 by omega]) e9
    refine lv_aload_n hx hb dL_law_106 rfl (lv_at hl 2 rfl) ?_
    refine kM (As := [.ref (a 0)]) (rest := []) hCF hK hE hZ9 (hint_ok l D cI cJ hfl a hu hd) (va_cwS 1 hts (TBL_S0 mw_515 mw_516 mw_152 mw_517) rfl rfl rfl pmL_isHinted.2 ⟨Nat.le_of_ble_eq_true rfl, Nat.le_of_ble_eq_true rfl⟩) hS hA rfl hl.1 rfl (Nat.le_of_ble_eq_true rfl) ⟨by omega, by omega⟩ dL_law_107 (fun H locs u _ hS => ?_)
    refine lv_if_eq (tgt := 117) hx hb dL_law_110 (by decide) (fun c1 => absurd c1 (by decide)) (fun _ => ?_)
    refine lv_iconst (v := 1) hx hb dL_law_113 (by decide) ?_
    refine lv_goto (tgt := 118) hx hb dL_law_114 (by decide) ?_
    exact kend H locs ls _ _ (by omega) (by omega) hS.2.2.2.2
