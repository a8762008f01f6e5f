/-! ===== isSo; written by program out of the bytecode ===== -/
abbrev wtL_isSo : List Cond := Cond.code yL_isSo cL_isSo 9 (some .boolean) :: TBL
abbrev rmS : Room := { frames := 8, cells := 400, slots := 2400, locals := 200 }
set_option maxHeartbeats 4000000 in
set_option maxRecDepth 100000 in
theorem so_inner {p : Program} {l : Launch} {e : Env} {s : State} {m9 : MethodId} {args : Array Value} {below : List Frame} {meth : Method} {c : Code} {H0 : Heap} {Q9 : State → Prop} {D : va_G} {A : Nat → Prop} {cI cJ : ClassId} (X : Cx p s m9 c args cL_isSo 9 wtL_isSo RL D [(cI, .int), (cJ, .long)] A H0) (hfl : l.stackTraces = false) (hE : EXW s) (hZ9 : EXZ A s H0) {a : Nat → Nat} {Z : AS} (hZ : okA Z) {pp c0 s0 : Nat} (hpp : pp < 10) (hp8 : pp ≠ 8) (hc0 : c0 + 16 ≤ 400) (hs0 : s0 + 96 ≤ 2400)
    (kk : ∀ (u : PC) (H : Heap) (locs : List Loc) (ls : Array Slot) (seen cards hid : Int32), SeenI (cur Z.2.2.1) (pp + 1) 0 seen cards hid → okU Z u → HS D A H0 (WU cI cJ a u ++ []) H locs → lv_has ls 9 [(5, .int (nI pp)), (4, .int (nI 1)), (3, .int hid), (2, .int cards), (1, .int seen), (0, .ref (a 0))] → W p l e rmS s m9 args below meth c H locs (c0 + 16) (s0 + 6 * 16) Q9 (F0 m9 114 ls [])) :
    ∀ (n d : Nat) (u : PC) (H : Heap) (locs : List Loc) (ls : Array Slot) (seen cards hid : Int32), d + n = 16 → SeenI (cur Z.2.2.1) pp d seen cards hid → okU Z u → HS D A H0 (WU cI cJ a u ++ []) H locs → lv_has ls 9 [(6, .int (nI d)), (5, .int (nI pp)), (4, .int (nI 1)), (3, .int hid), (2, .int cards), (1, .int seen), (0, .ref (a 0))] → W p l e rmS s m9 args below meth c H locs (c0 + d) (s0 + 6 * d) Q9 (F0 m9 22 ls []) := by
  have hCF := X.1
  obtain ⟨⟨hx, hb, hml, hown, hts⟩, hK, hA⟩ := X
  have rc : rmS.cells = 400 := rfl
  have rs : rmS.slots = 2400 := rfl
  intro n
  induction n with
  | zero =>
    intro d u H locs ls seen cards hid hd hsn hu hS hl
    obtain rfl : d = 16 := by omega
    refine lv_iload hx hb dL_isSo_22 (lv_at hl 0 rfl) ?_
    refine lv_bipush (v := (nI 16)) hx hb dL_isSo_24 (by decide) ?_
    refine lv_icmp_ge (tgt := 114) hx hb dL_isSo_26 (by decide) (fun _ => ?_) (fun c1 => absurd (nI_le (by omega) (by omega)) c1)
    exact kk u _ _ _ _ _ _ (hsn.next hZ.wf.1 (Or.inl rfl)) hu hS (lv_sub hl [1, 2, 3, 4, 5, 6] rfl)
  | succ n ih =>
    intro d u H locs ls seen cards hid hd hsn hu hS hl
    refine lv_iload hx hb dL_isSo_22 (lv_at hl 0 rfl) ?_
    refine lv_bipush (v := (nI 16)) hx hb dL_isSo_24 (by decide) ?_
    refine lv_icmp_ge (tgt := 114) hx hb dL_isSo_26 (by decide) (fun c1 => absurd c1 (nI_ge (by omega) (by omega))) (fun _ => ?_)
    refine lv_iload hx hb dL_isSo_29 (lv_at hl 1 rfl) ?_
    refine lv_bipush (v := (nI 8)) hx hb dL_isSo_31 (by decide) ?_
    refine lv_icmp_eq (tgt := 114) hx hb dL_isSo_33 (by decide) (fun c1 => absurd c1 (by rw [nI_eq (by omega) (by omega)]; exact hp8)) (fun _ => ?_)
    refine lv_aload_n hx hb dL_isSo_36 rfl (lv_at hl 6 rfl) ?_
    refine lv_iload hx hb dL_isSo_37 (lv_at hl 1 rfl) ?_
    refine lv_iload hx hb dL_isSo_39 (lv_at hl 0 rfl) ?_
    refine dX_card hCF hK hA hfl hE hZ9 (nI pp) (nI d) (cwV 2 hts (TBL_V mw_486 mw_487 mw_488 mw_2 mw_489) rfl rfl rfl pmX5_card ⟨Nat.le_of_ble_eq_true rfl, Nat.le_of_ble_eq_true rfl⟩) hu hS hl.1 (Nat.le_of_ble_eq_true rfl) ⟨by omega, by omega⟩ dL_isSo_41 (fun H locs q9 ce u' hth _ _ _ _ _ => absurd hth (by rw [(card_0 Z (by omega) (by omega))]; omega)) (fun H locs u _ hu hS => ?_)
    rw [card_val Z hpp (show d < 2 ^ 31 by omega)]
    rcases hsn.step (R := Z.2.1) hZ.wf.1 hp8 with ⟨ex, hs2⟩ | ⟨ex, hs2⟩ | ⟨x, hx16, ex, eb, hs2⟩
    · replace ex : cardA Z.2.1 (cur Z.2.2.1) pp d = (-1) := ex
      show W p l e rmS s m9 args below meth c H locs (c0 + d + 1) (s0 + 6 * d + 6) Q9 (F0 m9 44 ls [.int (cardA Z.2.1 (cur Z.2.2.1) pp d)])
      rw [ex]
      refine lv_istore (lv' := [(7, .int (-1)), (6, .int (nI d)), (5, .int (nI pp)), (4, .int (nI 1)), (3, .int hid), (2, .int cards), (1, .int seen), (0, .ref (a 0))]) hx hb dL_isSo_44 hl (by decide) rfl (fun ls hl => ?_)
      refine lv_iload hx hb dL_isSo_46 (lv_at hl 0 rfl) ?_
      refine lv_if_lt (tgt := 79) hx hb dL_isSo_48 (by decide) (fun _ => ?_) (fun c1 => absurd (by decide) c1)
      refine lv_iload_n hx hb dL_isSo_79 rfl (lv_at hl 5 rfl) ?_
      refine lv_iload hx hb dL_isSo_80 (lv_at hl 0 rfl) ?_
      refine lv_iconst (v := (-1)) hx hb dL_isSo_82 (by decide) ?_
      refine lv_icmp_ne (tgt := 90) hx hb dL_isSo_83 (by decide) (fun c1 => absurd rfl c1) (fun _ => ?_)
      refine lv_iconst (v := (nI 0)) hx hb dL_isSo_86 (by decide) ?_
      refine lv_goto (tgt := 91) hx hb dL_isSo_87 (by decide) ?_
      refine lv_iadd hx hb dL_isSo_91 ?_
      refine lv_istore_n (lv' := [(2, .int (cards + (nI 0))), (7, .int (-1)), (6, .int (nI d)), (5, .int (nI pp)), (4, .int (nI 1)), (3, .int hid), (1, .int seen), (0, .ref (a 0))]) hx hb dL_isSo_92 rfl hl (by decide) rfl (fun ls hl => ?_)
      rw [add_n0] at hl
      refine lv_iload_n hx hb dL_isSo_93 rfl (lv_at hl 5 rfl) ?_
      refine lv_iload hx hb dL_isSo_94 (lv_at hl 1 rfl) ?_
      refine lv_bipush (v := (-2)) hx hb dL_isSo_96 (by decide) ?_
      refine lv_icmp_ne (tgt := 105) hx hb dL_isSo_98 (by decide) (fun _ => ?_) (fun c1 => absurd c1 (by decide))
      refine lv_iconst (v := (nI 0)) hx hb dL_isSo_105 (by decide) ?_
      refine lv_iadd hx hb dL_isSo_106 ?_
      refine lv_istore_n (lv' := [(3, .int (hid + (nI 0))), (2, .int cards), (7, .int (-1)), (6, .int (nI d)), (5, .int (nI pp)), (4, .int (nI 1)), (1, .int seen), (0, .ref (a 0))]) hx hb dL_isSo_107 rfl hl (by decide) rfl (fun ls hl => ?_)
      rw [add_n0] at hl
      refine lv_iinc (v := ((nI d) + nI 1)) (lv' := [(6, .int ((nI d) + nI 1)), (3, .int hid), (2, .int cards), (7, .int (-1)), (5, .int (nI pp)), (4, .int (nI 1)), (1, .int seen), (0, .ref (a 0))]) hx hb dL_isSo_108 hl (k := 3) rfl rfl (by decide) rfl (fun ls hl => ?_)
      refine lv_goto (tgt := 22) hx hb dL_isSo_111 (by decide) ?_
      rw [nI_add] at hl
      refine W.widen (k := c0 + (d + 1)) (n := s0 + 6 * (d + 1)) (by omega) (by omega) ?_
      exact ih (d + 1) u _ _ _ _ _ _ (by omega) hs2 hu hS (lv_sub hl [0, 4, 5, 1, 2, 6, 7] rfl)
    · replace ex : cardA Z.2.1 (cur Z.2.2.1) pp d = (-2) := ex
      show W p l e rmS s m9 args below meth c H locs (c0 + d + 1) (s0 + 6 * d + 6) Q9 (F0 m9 44 ls [.int (cardA Z.2.1 (cur Z.2.2.1) pp d)])
      rw [ex]
      refine lv_istore (lv' := [(7, .int (-2)), (6, .int (nI d)), (5, .int (nI pp)), (4, .int (nI 1)), (3, .int hid), (2, .int cards), (1, .int seen), (0, .ref (a 0))]) hx hb dL_isSo_44 hl (by decide) rfl (fun ls hl => ?_)
      refine lv_iload hx hb dL_isSo_46 (lv_at hl 0 rfl) ?_
      refine lv_if_lt (tgt := 79) hx hb dL_isSo_48 (by decide) (fun _ => ?_) (fun c1 => absurd (by decide) c1)
      refine lv_iload_n hx hb dL_isSo_79 rfl (lv_at hl 5 rfl) ?_
      refine lv_iload hx hb dL_isSo_80 (lv_at hl 0 rfl) ?_
      refine lv_iconst (v := (-1)) hx hb dL_isSo_82 (by decide) ?_
      refine lv_icmp_ne (tgt := 90) hx hb dL_isSo_83 (by decide) (fun _ => ?_) (fun c1 => absurd c1 (by decide))
      refine lv_iconst (v := (nI 1)) hx hb dL_isSo_90 (by decide) ?_
      refine lv_iadd hx hb dL_isSo_91 ?_
      refine lv_istore_n (lv' := [(2, .int (cards + (nI 1))), (7, .int (-2)), (6, .int (nI d)), (5, .int (nI pp)), (4, .int (nI 1)), (3, .int hid), (1, .int seen), (0, .ref (a 0))]) hx hb dL_isSo_92 rfl hl (by decide) rfl (fun ls hl => ?_)
      refine lv_iload_n hx hb dL_isSo_93 rfl (lv_at hl 5 rfl) ?_
      refine lv_iload hx hb dL_isSo_94 (lv_at hl 1 rfl) ?_
      refine lv_bipush (v := (-2)) hx hb dL_isSo_96 (by decide) ?_
      refine lv_icmp_ne (tgt := 105) hx hb dL_isSo_98 (by decide) (fun c1 => absurd rfl c1) (fun _ => ?_)
      refine lv_iconst (v := (nI 1)) hx hb dL_isSo_101 (by decide) ?_
      refine lv_goto (tgt := 106) hx hb dL_isSo_102 (by decide) ?_
      refine lv_iadd hx hb dL_isSo_106 ?_
      refine lv_istore_n (lv' := [(3, .int (hid + (nI 1))), (2, .int (cards + (nI 1))), (7, .int (-2)), (6, .int (nI d)), (5, .int (nI pp)), (4, .int (nI 1)), (1, .int seen), (0, .ref (a 0))]) hx hb dL_isSo_107 rfl hl (by decide) rfl (fun ls hl => ?_)
      refine lv_iinc (v := ((nI d) + nI 1)) (lv' := [(6, .int ((nI d) + nI 1)), (3, .int (hid + (nI 1))), (2, .int (cards + (nI 1))), (7, .int (-2)), (5, .int (nI pp)), (4, .int (nI 1)), (1, .int seen), (0, .ref (a 0))]) hx hb dL_isSo_108 hl (k := 3) rfl rfl (by decide) rfl (fun ls hl => ?_)
      refine lv_goto (tgt := 22) hx hb dL_isSo_111 (by decide) ?_
      rw [nI_add] at hl
      refine W.widen (k := c0 + (d + 1)) (n := s0 + 6 * (d + 1)) (by omega) (by omega) ?_
      exact ih (d + 1) u _ _ _ _ _ _ (by omega) hs2 hu hS (lv_sub hl [0, 4, 5, 1, 2, 6, 7] rfl)
    · replace ex : cardA Z.2.1 (cur Z.2.2.1) pp d = (nI x) := ex
      show W p l e rmS s m9 args below meth c H locs (c0 + d + 1) (s0 + 6 * d + 6) Q9 (F0 m9 44 ls [.int (cardA Z.2.1 (cur Z.2.2.1) pp d)])
      rw [ex]
      refine lv_istore (lv' := [(7, .int (nI x)), (6, .int (nI d)), (5, .int (nI pp)), (4, .int (nI 1)), (3, .int hid), (2, .int cards), (1, .int seen), (0, .ref (a 0))]) hx hb dL_isSo_44 hl (by decide) rfl (fun ls hl => ?_)
      refine lv_iload hx hb dL_isSo_46 (lv_at hl 0 rfl) ?_
      refine lv_if_lt (tgt := 79) hx hb dL_isSo_48 (by decide) (fun c1 => absurd c1 (nI_pos (by omega))) (fun _ => ?_)
      refine lv_iload hx hb dL_isSo_51 (lv_at hl 3 rfl) ?_
      refine lv_if_eq (tgt := 69) hx hb dL_isSo_53 (by decide) (fun c1 => absurd c1 (by decide)) (fun _ => ?_)
      refine lv_iload_n hx hb dL_isSo_56 rfl (lv_at hl 6 rfl) ?_
      refine lv_iload hx hb dL_isSo_57 (lv_at hl 0 rfl) ?_
      refine lv_ishr hx hb dL_isSo_59 ?_
      refine lv_iconst (v := (nI 1)) hx hb dL_isSo_60 (by decide) ?_
      refine lv_iand hx hb dL_isSo_61 ?_
      refine lv_if_ne (tgt := 69) hx hb dL_isSo_62 (by decide) (fun c1 => absurd eb c1) (fun _ => ?_)
      refine lv_iconst (v := (nI 1)) hx hb dL_isSo_65 (by decide) ?_
      refine lv_goto (tgt := 70) hx hb dL_isSo_66 (by decide) ?_
      refine lv_istore (lv' := [(4, .int (nI 1)), (7, .int (nI x)), (6, .int (nI d)), (5, .int (nI pp)), (3, .int hid), (2, .int cards), (1, .int seen), (0, .ref (a 0))]) hx hb dL_isSo_70 hl (by decide) rfl (fun ls hl => ?_)
      refine lv_iload_n hx hb dL_isSo_72 rfl (lv_at hl 6 rfl) ?_
      refine lv_iconst (v := (nI 1)) hx hb dL_isSo_73 (by decide) ?_
      refine lv_iload hx hb dL_isSo_74 (lv_at hl 1 rfl) ?_
      refine lv_ishl hx hb dL_isSo_76 ?_
      refine lv_ior hx hb dL_isSo_77 ?_
      refine lv_istore_n (lv' := [(1, .int (seen ||| ((nI 1) <<< ((nI x) &&& 31)))), (4, .int (nI 1)), (7, .int (nI x)), (6, .int (nI d)), (5, .int (nI pp)), (3, .int hid), (2, .int cards), (0, .ref (a 0))]) hx hb dL_isSo_78 rfl hl (by decide) rfl (fun ls hl => ?_)
      refine lv_iload_n hx hb dL_isSo_79 rfl (lv_at hl 6 rfl) ?_
      refine lv_iload hx hb dL_isSo_80 (lv_at hl 2 rfl) ?_
      refine lv_iconst (v := (-1)) hx hb dL_isSo_82 (by decide) ?_
      refine lv_icmp_ne (tgt := 90) hx hb dL_isSo_83 (by decide) (fun _ => ?_) (fun c1 => absurd c1 (nI_nm1 (by omega)))
      refine lv_iconst (v := (nI 1)) hx hb dL_isSo_90 (by decide) ?_
      refine lv_iadd hx hb dL_isSo_91 ?_
      refine lv_istore_n (lv' := [(2, .int (cards + (nI 1))), (1, .int (seen ||| ((nI 1) <<< ((nI x) &&& 31)))), (4, .int (nI 1)), (7, .int (nI x)), (6, .int (nI d)), (5, .int (nI pp)), (3, .int hid), (0, .ref (a 0))]) hx hb dL_isSo_92 rfl hl (by decide) rfl (fun ls hl => ?_)
      refine lv_iload_n hx hb dL_isSo_93 rfl (lv_at hl 6 rfl) ?_
      refine lv_iload hx hb dL_isSo_94 (lv_at hl 3 rfl) ?_
      refine lv_bipush (v := (-2)) hx hb dL_isSo_96 (by decide) ?_
      refine lv_icmp_ne (tgt := 105) hx hb dL_isSo_98 (by decide) (fun _ => ?_) (fun c1 => absurd c1 (nI_nm2 (by omega)))
      refine lv_iconst (v := (nI 0)) hx hb dL_isSo_105 (by decide) ?_
      refine lv_iadd hx hb dL_isSo_106 ?_
      refine lv_istore_n (lv' := [(3, .int (hid + (nI 0))), (2, .int (cards + (nI 1))), (1, .int (seen ||| ((nI 1) <<< ((nI x) &&& 31)))), (4, .int (nI 1)), (7, .int (nI x)), (6, .int (nI d)), (5, .int (nI pp)), (0, .ref (a 0))]) hx hb dL_isSo_107 rfl hl (by decide) rfl (fun ls hl => ?_)
      rw [add_n0] at hl
      refine lv_iinc (v := ((nI d) + nI 1)) (lv' := [(6, .int ((nI d) + nI 1)), (3, .int hid), (2, .int (cards + (nI 1))), (1, .int (seen ||| ((nI 1) <<< ((nI x) &&& 31)))), (4, .int (nI 1)), (7, .int (nI x)), (5, .int (nI pp)), (0, .ref (a 0))]) hx hb dL_isSo_108 hl (k := 5) rfl rfl (by decide) rfl (fun ls hl => ?_)
      refine lv_goto (tgt := 22) hx hb dL_isSo_111 (by decide) ?_
      rw [nI_add] at hl
      refine W.widen (k := c0 + (d + 1)) (n := s0 + 6 * (d + 1)) (by omega) (by omega) ?_
      exact ih (d + 1) u _ _ _ _ _ _ (by omega) hs2 hu hS (lv_sub hl [0, 6, 4, 1, 2, 3, 7] rfl)
set_option maxHeartbeats 4000000 in
set_option maxRecDepth 100000 in
theorem so_outer {p : Program} {l : Launch} {e : Env} {s : State} {m9 : MethodId} {args : Array Value} {below : List Frame} {meth : Method} {c : Code} {H0 : Heap} {Q9 : State → Prop} {D : va_G} {A : Nat → Prop} {cI cJ : ClassId} (X : Cx p s m9 c args cL_isSo 9 wtL_isSo RL D [(cI, .int), (cJ, .long)] A H0) (hfl : l.stackTraces = false) (hE : EXW s) (hZ9 : EXZ A s H0) {a : Nat → Nat} {Z : AS} (hZ : okA Z)
    (kk : ∀ (u : PC) (H : Heap) (locs : List Loc) (ls : Array Slot) (seen cards hid : Int32), SeenI (cur Z.2.2.1) 10 0 seen cards hid → okU Z u → HS D A H0 (WU cI cJ a u ++ []) H locs → lv_has ls 9 [(5, .int (nI 10)), (4, .int (nI 1)), (3, .int hid), (2, .int cards), (1, .int seen), (0, .ref (a 0))] → W p l e rmS s m9 args below meth c H locs (16 * 10) (96 * 10) Q9 (F0 m9 120 ls [])) :
    ∀ (n pp : Nat) (u : PC) (H : Heap) (locs : List Loc) (ls : Array Slot) (seen cards hid : Int32), pp + n = 10 → SeenI (cur Z.2.2.1) pp 0 seen cards hid → okU Z u → HS D A H0 (WU cI cJ a u ++ []) H locs → lv_has ls 9 [(5, .int (nI pp)), (4, .int (nI 1)), (3, .int hid), (2, .int cards), (1, .int seen), (0, .ref (a 0))] → W p l e rmS s m9 args below meth c H locs (16 * pp) (96 * pp) Q9 (F0 m9 12 ls []) := by
  have X0 := X
  have hCF := X.1
  obtain ⟨⟨hx, hb, hml, hown, hts⟩, hK, hA⟩ := X
  have rc : rmS.cells = 400 := rfl
  have rs : rmS.slots = 2400 := rfl
  intro n
  induction n with
  | zero =>
    intro pp u H locs ls seen cards hid hd hsn hu hS hl
    obtain rfl : pp = 10 := by omega
    refine lv_iload hx hb dL_isSo_12 (lv_at hl 0 rfl) ?_
    refine lv_bipush (v := (nI 10)) hx hb dL_isSo_14 (by decide) ?_
    refine lv_icmp_ge (tgt := 120) hx hb dL_isSo_16 (by decide) (fun _ => ?_) (fun c1 => absurd (nI_le (by omega) (by omega)) c1)
    exact kk u _ _ _ _ _ _ hsn hu hS hl
  | succ n ih =>
    intro pp u H locs ls seen cards hid hd hsn hu hS hl
    refine lv_iload hx hb dL_isSo_12 (lv_at hl 0 rfl) ?_
    refine lv_bipush (v := (nI 10)) hx hb dL_isSo_14 (by decide) ?_
    refine lv_icmp_ge (tgt := 120) hx hb dL_isSo_16 (by decide) (fun c1 => absurd c1 (nI_ge (by omega) (by omega))) (fun _ => ?_)
    refine lv_iconst (v := (nI 0)) hx hb dL_isSo_19 (by decide) ?_
    refine lv_istore (lv' := [(6, .int (nI 0)), (5, .int (nI pp)), (4, .int (nI 1)), (3, .int hid), (2, .int cards), (1, .int seen), (0, .ref (a 0))]) hx hb dL_isSo_20 hl (by decide) rfl (fun ls hl => ?_)
    by_cases h8 : pp = 8
    · subst h8
      refine lv_iload hx hb dL_isSo_22 (lv_at hl 0 rfl) ?_
      refine lv_bipush (v := (nI 16)) hx hb dL_isSo_24 (by decide) ?_
      refine lv_icmp_ge (tgt := 114) hx hb dL_isSo_26 (by decide) (fun c1 => absurd c1 (by decide)) (fun _ => ?_)
      refine lv_iload hx hb dL_isSo_29 (lv_at hl 1 rfl) ?_
      refine lv_bipush (v := (nI 8)) hx hb dL_isSo_31 (by decide) ?_
      refine lv_icmp_eq (tgt := 114) hx hb dL_isSo_33 (by decide) (fun _ => ?_) (fun c1 => absurd rfl c1)
      replace hsn := hsn.next hZ.wf.1 (Or.inr rfl)
      refine lv_iinc (v := ((nI 8) + nI 1)) (lv' := [(5, .int ((nI 8) + nI 1)), (6, .int (nI 0)), (4, .int (nI 1)), (3, .int hid), (2, .int cards), (1, .int seen), (0, .ref (a 0))]) hx hb dL_isSo_114 hl (k := 1) rfl rfl (by decide) rfl (fun ls hl => ?_)
      refine lv_goto (tgt := 12) hx hb dL_isSo_117 (by decide) ?_
      rw [nI_add] at hl
      refine W.widen (k := 16 * (8 + 1)) (n := 96 * (8 + 1)) (by omega) (by omega) ?_
      exact ih (8 + 1) u _ _ _ _ _ _ (by omega) hsn hu hS (lv_sub hl [0, 2, 3, 4, 5, 6] rfl)
    · refine so_inner X0 hfl hE hZ9 hZ (c0 := 16 * pp) (s0 := 96 * pp) (by omega) h8 (by omega) (by omega) (fun u H locs ls seen cards hid hsn hu hS hl => ?_) 16 0 u _ _ _ _ _ _ rfl hsn hu hS (lv_sub hl [0, 1, 2, 3, 4, 5, 6] rfl)
      refine lv_iinc (v := ((nI pp) + nI 1)) (lv' := [(5, .int ((nI pp) + nI 1)), (4, .int (nI 1)), (3, .int hid), (2, .int cards), (1, .int seen), (0, .ref (a 0))]) hx hb dL_isSo_114 hl (k := 0) rfl rfl (by decide) rfl (fun ls hl => ?_)
      refine lv_goto (tgt := 12) hx hb dL_isSo_117 (by decide) ?_
      rw [nI_add] at hl
      refine W.widen (k := 16 * (pp + 1)) (n := 96 * (pp + 1)) (by omega) (by omega) ?_
      exact ih (pp + 1) u _ _ _ _ _ _ (by omega) hsn hu hS (lv_sub hl [0, 1, 2, 3, 4, 5] rfl)
set_option maxHeartbeats 4000000 in
set_option maxRecDepth 100000 in
theorem so_moves {p : Program} {l : Launch} {e : Env} {s : State} {m9 : MethodId} {args : Array Value} {below : List Frame} {meth : Method} {c : Code} {H0 : Heap} {Q9 : State → Prop} {D : va_G} {A : Nat → Prop} {cI cJ : ClassId} (X : Cx p s m9 c args cL_isSo 9 wtL_isSo RL D [(cI, .int), (cJ, .long)] A H0) (hfl : l.stackTraces = false) (hE : EXW s) (hZ9 : EXZ A s H0) {a : Nat → Nat} {Z : AS} (hZ : okA Z) {seen cards hid : Int32}
    (kk : ∀ (u : PC) (H : Heap) (locs : List Loc) (ls : Array Slot), okU Z u → HS D A H0 (WU cI cJ a u ++ []) H locs → lv_has ls 9 [(5, .int (nI (mvs Z.2.1 (cur Z.2.2.1)).length)), (4, .int (nI 1)), (3, .int hid), (2, .int cards), (1, .int seen), (0, .ref (a 0))] → W p l e rmS s m9 args below meth c H locs (160 + (mvs Z.2.1 (cur Z.2.2.1)).length) (960 + 6 * (mvs Z.2.1 (cur Z.2.2.1)).length) Q9 (F0 m9 193 ls [])) :
    ∀ (n k : Nat) (u : PC) (H : Heap) (locs : List Loc) (ls : Array Slot) (last : Int32), k + n = (mvs Z.2.1 (cur Z.2.2.1)).length → LastI Z k last → okU Z u → HS D A H0 (WU cI cJ a u ++ []) H locs → lv_has ls 9 [(7, .int (nI k)), (6, .int last), (5, .int (nI (mvs Z.2.1 (cur Z.2.2.1)).length)), (4, .int (nI 1)), (3, .int hid), (2, .int cards), (1, .int seen), (0, .ref (a 0))] → W p l e rmS s m9 args below meth c H locs (160 + k) (960 + 6 * k) Q9 (F0 m9 132 ls []) := by
  have hCF := X.1
  obtain ⟨⟨hx, hb, hml, hown, hts⟩, hK, hA⟩ := X
  have rc : rmS.cells = 400 := rfl
  have rs : rmS.slots = 2400 := rfl
  have hml2 := (moves_nI hZ).2
  intro n
  induction n with
  | zero =>
    intro k u H locs ls last hk hla hu hS hl
    obtain rfl : k = (mvs Z.2.1 (cur Z.2.2.1)).length := by omega
    refine lv_iload hx hb dL_isSo_132 (lv_at hl 0 rfl) ?_
    refine lv_iload hx hb dL_isSo_134 (lv_at hl 2 rfl) ?_
    refine lv_icmp_ge (tgt := 193) hx hb dL_isSo_136 (by decide) (fun _ => ?_) (fun c1 => absurd (Int32.le_refl _) c1)
    exact kk u _ _ _ hu hS (lv_sub hl [2, 3, 4, 5, 6, 7] rfl)
  | succ n ih =>
    intro k u H locs ls last hk hla hu hS hl
    refine lv_iload hx hb dL_isSo_132 (lv_at hl 0 rfl) ?_
    refine lv_iload hx hb dL_isSo_134 (lv_at hl 2 rfl) ?_
    refine lv_icmp_ge (tgt := 193) hx hb dL_isSo_136 (by decide) (fun c1 => absurd c1 (nI_ge (by omega) (by omega))) (fun _ => ?_)
    refine lv_iload hx hb dL_isSo_139 (lv_at hl 3 rfl) ?_
    refine lv_if_eq (tgt := 193) hx hb dL_isSo_141 (by decide) (fun c1 => absurd c1 (by decide)) (fun _ => ?_)
    refine lv_aload_n hx hb dL_isSo_144 rfl (lv_at hl 7 rfl) ?_
    refine lv_iload hx hb dL_isSo_145 (lv_at hl 0 rfl) ?_
    refine dX_moveAt hCF hK hA hfl hE hZ9 (nI k) (cwV 1 hts (TBL_V mw_305 mw_306 mw_307 mw_2 mw_308) rfl rfl rfl pmX5_moveAt ⟨Nat.le_of_ble_eq_true rfl, Nat.le_of_ble_eq_true rfl⟩) hu hS hl.1 (Nat.le_of_ble_eq_true rfl) ⟨by omega, by omega⟩ dL_isSo_147 (fun H locs q9 ce u' hth _ _ _ _ _ => absurd hth (by rw [if_pos (moveAt_0 Z (by omega))]; omega)) (fun H locs u _ hu hS => ?_)
    obtain ⟨mm, hmm⟩ : ∃ mm, (mvs Z.2.1 (cur Z.2.2.1))[k]? = some mm := ⟨_, List.getElem?_eq_getElem (by omega)⟩
    have hms := mvs_small (List.mem_of_getElem? hmm)
    rw [show (aMoveAt Z (nI k)).2.1 = nI mm by rw [moveAt_val Z (by omega), hmm]; rfl]
    refine lv_istore (lv' := [(8, .int (nI mm)), (7, .int (nI k)), (6, .int last), (5, .int (nI (mvs Z.2.1 (cur Z.2.2.1)).length)), (4, .int (nI 1)), (3, .int hid), (2, .int cards), (1, .int seen), (0, .ref (a 0))]) hx hb dL_isSo_150 hl (by decide) rfl (fun ls hl => ?_)
    refine lv_iload hx hb dL_isSo_152 (lv_at hl 0 rfl) ?_
    refine lv_iload hx hb dL_isSo_154 (lv_at hl 2 rfl) ?_
    refine lv_icmp_le (tgt := 180) hx hb dL_isSo_156 (by decide) (fun c1 => absurd c1 (hla.lt hmm)) (fun _ => ?_)
    refine lv_iload hx hb dL_isSo_159 (lv_at hl 0 rfl) ?_
    refine lv_sipush (v := (nI 1000)) hx hb dL_isSo_161 (by decide) ?_
    refine lv_idiv hx hb dL_isSo_164 (by decide) ?_
    refine lv_iload hx hb dL_isSo_165 (lv_at hl 0 rfl) ?_
    refine lv_bipush (v := (nI 100)) hx hb dL_isSo_167 (by decide) ?_
    refine lv_idiv hx hb dL_isSo_169 (by decide) ?_
    refine lv_bipush (v := (nI 10)) hx hb dL_isSo_170 (by decide) ?_
    refine lv_irem hx hb dL_isSo_172 (by decide) ?_
    refine lv_icmp_eq (tgt := 180) hx hb dL_isSo_173 (by decide) (fun c1 => absurd c1 (mv_apart hZ hmm)) (fun _ => ?_)
    refine lv_iconst (v := (nI 1)) hx hb dL_isSo_176 (by decide) ?_
    refine lv_goto (tgt := 181) hx hb dL_isSo_177 (by decide) ?_
    refine lv_istore (lv' := [(4, .int (nI 1)), (8, .int (nI mm)), (7, .int (nI k)), (6, .int last), (5, .int (nI (mvs Z.2.1 (cur Z.2.2.1)).length)), (3, .int hid), (2, .int cards), (1, .int seen), (0, .ref (a 0))]) hx hb dL_isSo_181 hl (by decide) rfl (fun ls hl => ?_)
    refine lv_iload hx hb dL_isSo_183 (lv_at hl 1 rfl) ?_
    refine lv_istore (lv' := [(6, .int (nI mm)), (4, .int (nI 1)), (8, .int (nI mm)), (7, .int (nI k)), (5, .int (nI (mvs Z.2.1 (cur Z.2.2.1)).length)), (3, .int hid), (2, .int cards), (1, .int seen), (0, .ref (a 0))]) hx hb dL_isSo_185 hl (by decide) rfl (fun ls hl => ?_)
    refine lv_iinc (v := ((nI k) + nI 1)) (lv' := [(7, .int ((nI k) + nI 1)), (6, .int (nI mm)), (4, .int (nI 1)), (8, .int (nI mm)), (5, .int (nI (mvs Z.2.1 (cur Z.2.2.1)).length)), (3, .int hid), (2, .int cards), (1, .int seen), (0, .ref (a 0))]) hx hb dL_isSo_187 hl (k := 3) rfl rfl (by decide) rfl (fun ls hl => ?_)
    refine lv_goto (tgt := 132) hx hb dL_isSo_190 (by decide) ?_
    rw [nI_add] at hl
    refine W.widen (k := 160 + (k + 1)) (n := 960 + 6 * (k + 1)) (by omega) (by omega) ?_
    exact ih (k + 1) u _ _ _ _ (by omega) (Or.inr ⟨mm, by omega, hmm, rfl⟩) hu hS (lv_sub hl [0, 1, 4, 2, 5, 6, 7, 8] rfl)
set_option maxHeartbeats 4000000 in
set_option maxRecDepth 100000 in
theorem so_end {p : Program} {l : Launch} {e : Env} {s : State} {m9 : MethodId} {args : Array Value} {below : List Frame} {meth : Method} {c : Code} {H0 : Heap} {Q9 : State → Prop} {D : va_G} {A : Nat → Prop} {cI cJ : ClassId} (X : Cx p s m9 c args cL_isSo 9 wtL_isSo RL D [(cI, .int), (cJ, .long)] A H0) (hfl : l.stackTraces = false) (hE : EXW s) (hZ9 : EXZ A s H0) {a : Nat → Nat} {Z : AS} (hZ : okA Z) {seen cards hid : Int32} (hsn : SeenI (cur Z.2.2.1) 10 0 seen cards hid)
    (kret : ∀ (H : Heap) (locs : List Loc) (pc : Nat) (ls : Array Slot) (r : Int32) (u : PC), r = nI 1 → okU Z u → HS D A H0 (WU cI cJ a u) H locs → decode cL_isSo pc = .ok (.ireturn, 1) → W p l e rmS s m9 args below meth c H locs 400 2400 Q9 (F0 m9 pc ls [.int r]))
    (u : PC) (H : Heap) (locs : List Loc) (ls : Array Slot) (hu : okU Z u) (hS : HS D A H0 (WU cI cJ a u ++ []) H locs) (hl : lv_has ls 9 [(5, .int (nI (mvs Z.2.1 (cur Z.2.2.1)).length)), (4, .int (nI 1)), (3, .int hid), (2, .int cards), (1, .int seen), (0, .ref (a 0))]) : W p l e rmS s m9 args below meth c H locs (160 + (mvs Z.2.1 (cur Z.2.2.1)).length) (960 + 6 * (mvs Z.2.1 (cur Z.2.2.1)).length) Q9 (F0 m9 193 ls []) := by
  have hCF := X.1
  obtain ⟨⟨hx, hb, hml, hown, hts⟩, hK, hA⟩ := X
  have rc : rmS.cells = 400 := rfl
  have rs : rmS.slots = 2400 := rfl
  have hml2 := (moves_nI hZ).2
  have hR := hZ.2.1
  have hlen := hZ.2.2.1
  have hlen2 := hZ.2.2.2.1
  have htot := tot_cards hZ.wf hR
  have hthid := tot_hid hZ.wf.1
  have hR2 := hR
  unfold RulesOk at hR2
  obtain ⟨m0, -, -, -, h_cards, h_hid⟩ := hsn
  rw [Nat.min_zero, Nat.add_zero] at h_cards h_hid
  rw [hthid] at h_hid
  have h_lo : 2 ≤ sumH (lenP (cur Z.2.2.1)) 10 + upN (cur Z.2.2.1) := by omega
  have h_hi : sumH (lenP (cur Z.2.2.1)) 10 + upN (cur Z.2.2.1) ≤ 16 := by omega
  refine lv_iload hx hb dL_isSo_193 (lv_at hl 1 rfl) ?_
  refine lv_if_eq (tgt := 344) hx hb dL_isSo_195 (by decide) (fun c1 => absurd c1 (by decide)) (fun _ => ?_)
  refine lv_iload_n hx hb dL_isSo_198 rfl (lv_at hl 2 rfl) ?_
  refine lv_aload_n hx hb dL_isSo_199 rfl (lv_at hl 5 rfl) ?_
  refine lv_bipush (v := (nI 7)) hx hb dL_isSo_200 (by decide) ?_
  refine dX_told hCF hK hA hfl hE hZ9 (nI 7) (cwV 1 hts (TBL_V mw_462 mw_463 mw_464 mw_2 mw_465) rfl rfl rfl pmX5_told ⟨Nat.le_of_ble_eq_true rfl, Nat.le_of_ble_eq_true rfl⟩) hu hS hl.1 (Nat.le_of_ble_eq_true rfl) ⟨by omega, by omega⟩ dL_isSo_202 (fun H locs q9 ce u' hth _ _ _ _ _ => absurd hth (by rw [(told_0 Z (by omega))]; omega)) (fun H locs u _ hu hS => ?_)
  refine lv_icmp_ne (tgt := 344) hx hb dL_isSo_205 (by decide) (fun c1 => absurd (by rw [hid_told, h_hid]) c1) (fun _ => ?_)
  refine lv_aload_n hx hb dL_isSo_208 rfl (lv_at hl 5 rfl) ?_
  refine lv_iload hx hb dL_isSo_209 (lv_at hl 0 rfl) ?_
  refine dX_moveAt hCF hK hA hfl hE hZ9 (nI (mvs Z.2.1 (cur Z.2.2.1)).length) (cwV 1 hts (TBL_V mw_305 mw_306 mw_307 mw_2 mw_308) rfl rfl rfl pmX5_moveAt ⟨Nat.le_of_ble_eq_true rfl, Nat.le_of_ble_eq_true rfl⟩) hu hS hl.1 (Nat.le_of_ble_eq_true rfl) ⟨by omega, by omega⟩ dL_isSo_211 (fun H locs q9 ce u' hth _ _ _ _ _ => absurd hth (by rw [if_pos (moveAt_0 Z (by omega))]; omega)) (fun H locs u _ hu hS => ?_)
  refine lv_iconst (v := (-1)) hx hb dL_isSo_214 (by decide) ?_
  refine lv_icmp_ne (tgt := 344) hx hb dL_isSo_215 (by decide) (fun c1 => absurd (by rw [moveAt_val Z (by omega), List.getElem?_eq_none (Nat.le_refl _)]; rfl) c1) (fun _ => ?_)
  refine lv_iload_n hx hb dL_isSo_218 rfl (lv_at hl 3 rfl) ?_
  refine lv_aload_n hx hb dL_isSo_219 rfl (lv_at hl 5 rfl) ?_
  refine lv_iconst (v := (nI 0)) hx hb dL_isSo_220 (by decide) ?_
  refine dX_told hCF hK hA hfl hE hZ9 (nI 0) (cwV 1 hts (TBL_V mw_462 mw_463 mw_464 mw_2 mw_465) rfl rfl rfl pmX5_told ⟨Nat.le_of_ble_eq_true rfl, Nat.le_of_ble_eq_true rfl⟩) hu hS hl.1 (Nat.le_of_ble_eq_true rfl) ⟨by omega, by omega⟩ dL_isSo_221 (fun H locs q9 ce u' hth _ _ _ _ _ => absurd hth (by rw [(told_0 Z (by omega))]; omega)) (fun H locs u _ hu hS => ?_)
  refine lv_iadd hx hb dL_isSo_224 ?_
  refine lv_iconst (v := (nI 2)) hx hb dL_isSo_225 (by decide) ?_
  refine lv_icmp_lt (tgt := 344) hx hb dL_isSo_226 (by decide) (fun c1 => absurd c1 (by rw [up_told, h_cards, nI_add]; exact nI_nlt h_lo (by omega))) (fun _ => ?_)
  refine lv_iload_n hx hb dL_isSo_229 rfl (lv_at hl 3 rfl) ?_
  refine lv_aload_n hx hb dL_isSo_230 rfl (lv_at hl 5 rfl) ?_
  refine lv_iconst (v := (nI 0)) hx hb dL_isSo_231 (by decide) ?_
  refine dX_told hCF hK hA hfl hE hZ9 (nI 0) (cwV 1 hts (TBL_V mw_462 mw_463 mw_464 mw_2 mw_465) rfl rfl rfl pmX5_told ⟨Nat.le_of_ble_eq_true rfl, Nat.le_of_ble_eq_true rfl⟩) hu hS hl.1 (Nat.le_of_ble_eq_true rfl) ⟨by omega, by omega⟩ dL_isSo_232 (fun H locs q9 ce u' hth _ _ _ _ _ => absurd hth (by rw [(told_0 Z (by omega))]; omega)) (fun H locs u _ hu hS => ?_)
  refine lv_iadd hx hb dL_isSo_235 ?_
  refine lv_bipush (v := (nI 16)) hx hb dL_isSo_236 (by decide) ?_
  refine lv_icmp_gt (tgt := 344) hx hb dL_isSo_238 (by decide) (fun c1 => absurd c1 (by rw [up_told, h_cards, nI_add]; exact nI_nlt h_hi (by omega))) (fun _ => ?_)
  refine lv_aload_n hx hb dL_isSo_241 rfl (lv_at hl 5 rfl) ?_
  refine lv_iconst (v := (nI 4)) hx hb dL_isSo_242 (by decide) ?_
  refine dX_told hCF hK hA hfl hE hZ9 (nI 4) (cwV 1 hts (TBL_V mw_462 mw_463 mw_464 mw_2 mw_465) rfl rfl rfl pmX5_told ⟨Nat.le_of_ble_eq_true rfl, Nat.le_of_ble_eq_true rfl⟩) hu hS hl.1 (Nat.le_of_ble_eq_true rfl) ⟨by omega, by omega⟩ dL_isSo_243 (fun H locs q9 ce u' hth _ _ _ _ _ => absurd hth (by rw [(told_0 Z (by omega))]; omega)) (fun H locs u _ hu hS => ?_)
  refine lv_iconst (v := (nI 5)) hx hb dL_isSo_246 (by decide) ?_
  refine lv_aload_n hx hb dL_isSo_247 rfl (lv_at hl 5 rfl) ?_
  refine lv_iconst (v := (nI 0)) hx hb dL_isSo_248 (by decide) ?_
  refine dX_told hCF hK hA hfl hE hZ9 (nI 0) (cwV 1 hts (TBL_V mw_462 mw_463 mw_464 mw_2 mw_465) rfl rfl rfl pmX5_told ⟨Nat.le_of_ble_eq_true rfl, Nat.le_of_ble_eq_true rfl⟩) hu hS hl.1 (Nat.le_of_ble_eq_true rfl) ⟨by omega, by omega⟩ dL_isSo_249 (fun H locs q9 ce u' hth _ _ _ _ _ => absurd hth (by rw [(told_0 Z (by omega))]; omega)) (fun H locs u _ hu hS => ?_)
  refine lv_imul hx hb dL_isSo_252 ?_
  refine lv_aload_n hx hb dL_isSo_253 rfl (lv_at hl 5 rfl) ?_
  refine lv_iconst (v := (nI 1)) hx hb dL_isSo_254 (by decide) ?_
  refine dX_told hCF hK hA hfl hE hZ9 (nI 1) (cwV 1 hts (TBL_V mw_462 mw_463 mw_464 mw_2 mw_465) rfl rfl rfl pmX5_told ⟨Nat.le_of_ble_eq_true rfl, Nat.le_of_ble_eq_true rfl⟩) hu hS hl.1 (Nat.le_of_ble_eq_true rfl) ⟨by omega, by omega⟩ dL_isSo_255 (fun H locs q9 ce u' hth _ _ _ _ _ => absurd hth (by rw [(told_0 Z (by omega))]; omega)) (fun H locs u _ hu hS => ?_)
  refine lv_isub hx hb dL_isSo_258 ?_
  refine lv_iconst (v := (nI 2)) hx hb dL_isSo_259 (by decide) ?_
  refine lv_aload_n hx hb dL_isSo_260 rfl (lv_at hl 5 rfl) ?_
  refine lv_iconst (v := (nI 2)) hx hb dL_isSo_261 (by decide) ?_
  refine dX_told hCF hK hA hfl hE hZ9 (nI 2) (cwV 1 hts (TBL_V mw_462 mw_463 mw_464 mw_2 mw_465) rfl rfl rfl pmX5_told ⟨Nat.le_of_ble_eq_true rfl, Nat.le_of_ble_eq_true rfl⟩) hu hS hl.1 (Nat.le_of_ble_eq_true rfl) ⟨by omega, by omega⟩ dL_isSo_262 (fun H locs q9 ce u' hth _ _ _ _ _ => absurd hth (by rw [(told_0 Z (by omega))]; omega)) (fun H locs u _ hu hS => ?_)
  refine lv_imul hx hb dL_isSo_265 ?_
  refine lv_isub hx hb dL_isSo_266 ?_
  refine lv_icmp_ne (tgt := 344) hx hb dL_isSo_267 (by decide) (fun c1 => absurd (by rw [money_told, up_told, done_told, undone_told]; rfl) c1) (fun _ => ?_)
  refine lv_aload_n hx hb dL_isSo_270 rfl (lv_at hl 5 rfl) ?_
  refine lv_bipush (v := (nI 6)) hx hb dL_isSo_271 (by decide) ?_
  refine dX_told hCF hK hA hfl hE hZ9 (nI 6) (cwV 1 hts (TBL_V mw_462 mw_463 mw_464 mw_2 mw_465) rfl rfl rfl pmX5_told ⟨Nat.le_of_ble_eq_true rfl, Nat.le_of_ble_eq_true rfl⟩) hu hS hl.1 (Nat.le_of_ble_eq_true rfl) ⟨by omega, by omega⟩ dL_isSo_273 (fun H locs q9 ce u' hth _ _ _ _ _ => absurd hth (by rw [(told_0 Z (by omega))]; omega)) (fun H locs u _ hu hS => ?_)
  refine lv_iconst (v := (nI 1)) hx hb dL_isSo_276 (by decide) ?_
  by_cases hw : wonB Z.2.1 (cur Z.2.2.1) = true
  · have hc0 : sumH (lenP (cur Z.2.2.1)) 10 = 0 := by have h9 := hw; unfold wonB at h9; rw [decide_eq_true_eq] at h9; omega
    have h_s : (searchA Z.2.1 5 (cur Z.2.2.1)).1 = 0 := by unfold searchA; rw [if_pos hw]; rfl
    have h_h : (aHint Z).2.1 = -1 := by show hintA Z.2.1 (cur Z.2.2.1) = -1; unfold hintA searchA; rw [if_pos hw]; exact if_neg (show ¬ nI 1 ≤ nI 0 by decide)
    refine lv_icmp_ne (tgt := 284) hx hb dL_isSo_277 (by decide) (fun c1 => absurd (by rw [won_told, hw]; rfl) c1) (fun _ => ?_)
    refine lv_iconst (v := (nI 1)) hx hb dL_isSo_280 (by decide) ?_
    refine lv_goto (tgt := 285) hx hb dL_isSo_281 (by decide) ?_
    refine lv_iload_n hx hb dL_isSo_285 rfl (lv_at hl 3 rfl) ?_
    refine lv_if_ne (tgt := 293) hx hb dL_isSo_286 (by decide) (fun c1 => absurd (by rw [h_cards, hc0]; rfl) c1) (fun _ => ?_)
    refine lv_iconst (v := (nI 1)) hx hb dL_isSo_289 (by decide) ?_
    refine lv_goto (tgt := 294) hx hb dL_isSo_290 (by decide) ?_
    refine lv_icmp_ne (tgt := 344) hx hb dL_isSo_294 (by decide) (fun c1 => absurd rfl c1) (fun _ => ?_)
    refine lv_iload_n hx hb dL_isSo_297 rfl (lv_at hl 3 rfl) ?_
    refine lv_if_gt (tgt := 317) hx hb dL_isSo_298 (by decide) (fun c1 => absurd c1 (by rw [h_cards, hc0]; decide)) (fun _ => ?_)
    refine lv_aload_n hx hb dL_isSo_301 rfl (lv_at hl 5 rfl) ?_
    refine lv_iconst (v := (nI 5)) hx hb dL_isSo_302 (by decide) ?_
    refine dX_search hCF hK hA hfl hE hZ9 (nI 5) (cwV 1 hts (TBL_V mw_403 mw_404 mw_405 mw_2 mw_406) rfl rfl rfl pmX5_search ⟨Nat.le_of_ble_eq_true rfl, Nat.le_of_ble_eq_true rfl⟩) hu hS hl.1 (Nat.le_of_ble_eq_true rfl) ⟨by omega, by omega⟩ dL_isSo_303 (fun H locs q9 ce u' hth _ _ _ _ _ => absurd hth (by rw [(search_0 Z (by omega) (by omega))]; omega)) (fun H locs u _ hu hS => ?_)
    refine lv_if_ne (tgt := 344) hx hb dL_isSo_306 (by decide) (fun c1 => absurd (by rw [search_val Z (by omega) (by omega)]; exact h_s) c1) (fun _ => ?_)
    refine lv_aload_n hx hb dL_isSo_309 rfl (lv_at hl 5 rfl) ?_
    refine dX_hint hCF hK hA (cwV 0 hts (TBL_V mw_511 mw_512 mw_513 mw_2 mw_514) rfl rfl rfl pmX5_hint ⟨Nat.le_of_ble_eq_true rfl, Nat.le_of_ble_eq_true rfl⟩) hu hS hl.1 (Nat.le_of_ble_eq_true rfl) ⟨by omega, by omega⟩ dL_isSo_310 (fun H locs u hu hS => ?_)
    refine lv_iconst (v := (-1)) hx hb dL_isSo_313 (by decide) ?_
    refine lv_icmp_ne (tgt := 344) hx hb dL_isSo_314 (by decide) (fun c1 => absurd h_h c1) (fun _ => ?_)
    refine lv_aload_n hx hb dL_isSo_317 rfl (lv_at hl 5 rfl) ?_
    refine lv_iconst (v := (nI 1)) hx hb dL_isSo_318 (by decide) ?_
    refine dX_told hCF hK hA hfl hE hZ9 (nI 1) (cwV 1 hts (TBL_V mw_462 mw_463 mw_464 mw_2 mw_465) rfl rfl rfl pmX5_told ⟨Nat.le_of_ble_eq_true rfl, Nat.le_of_ble_eq_true rfl⟩) hu hS hl.1 (Nat.le_of_ble_eq_true rfl) ⟨by omega, by omega⟩ dL_isSo_319 (fun H locs q9 ce u' hth _ _ _ _ _ => absurd hth (by rw [(told_0 Z (by omega))]; omega)) (fun H locs u _ hu hS => ?_)
    refine lv_sipush (v := (nI 200)) hx hb dL_isSo_322 (by decide) ?_
    refine lv_icmp_gt (tgt := 344) hx hb dL_isSo_325 (by decide) (fun c1 => absurd c1 (by rw [done_told]; exact nI_nlt (by omega) (by omega))) (fun _ => ?_)
    refine lv_aload_n hx hb dL_isSo_328 rfl (lv_at hl 5 rfl) ?_
    refine lv_bipush (v := (nI 10)) hx hb dL_isSo_329 (by decide) ?_
    refine lv_iconst (v := (nI 0)) hx hb dL_isSo_331 (by decide) ?_
    refine kU (As := [.ref (a 0), .int (nI 10), .int (nI 0)]) (rest := []) hCF hK hE hZ9 (hA_card l D cI cJ hfl a hu (nI 10) (nI 0)) (vx_cwSW 3 hts (TBL_SWc mw_483 mw_484 mw_152 mw_485) rfl rfl rfl pmL_card.2 ⟨Nat.le_of_ble_eq_true rfl, Nat.le_of_ble_eq_true rfl⟩) hS hA rfl hl.1 rfl (Nat.le_of_ble_eq_true rfl) ⟨by omega, by omega⟩ dL_isSo_332 (fun H locs u hu hS => ?_)
    refine lv_ldc (v := -99999999) hx hb hown (hts (.constant RL 16 (-99999999)) (List.mem_cons_of_mem _ mw_3)) dL_isSo_335 ?_
    refine lv_icmp_ne (tgt := 344) hx hb dL_isSo_337 (by decide) (fun c1 => absurd (card_10 Z) c1) (fun _ => ?_)
    refine lv_iconst (v := (nI 1)) hx hb dL_isSo_340 (by decide) ?_
    refine lv_goto (tgt := 345) hx hb dL_isSo_341 (by decide) ?_
    refine W.widen (k := 400) (n := 2400) (by omega) (by omega) ?_
    rw [List.append_nil] at hS
    exact kret _ _ _ _ _ u rfl hu hS dL_isSo_345
  · rw [Bool.not_eq_true] at hw
    have hc0 : 0 < sumH (lenP (cur Z.2.2.1)) 10 := by have h9 := hw; unfold wonB at h9; rw [decide_eq_false_iff_not] at h9; omega
    refine lv_icmp_ne (tgt := 284) hx hb dL_isSo_277 (by decide) (fun _ => ?_) (fun c1 => absurd c1 (by rw [won_told, hw]; decide))
    refine lv_iconst (v := (nI 0)) hx hb dL_isSo_284 (by decide) ?_
    refine lv_iload_n hx hb dL_isSo_285 rfl (lv_at hl 3 rfl) ?_
    refine lv_if_ne (tgt := 293) hx hb dL_isSo_286 (by decide) (fun _ => ?_) (fun c1 => absurd c1 (by rw [h_cards]; exact nI_ne0 hc0 (by omega)))
    refine lv_iconst (v := (nI 0)) hx hb dL_isSo_293 (by decide) ?_
    refine lv_icmp_ne (tgt := 344) hx hb dL_isSo_294 (by decide) (fun c1 => absurd rfl c1) (fun _ => ?_)
    refine lv_iload_n hx hb dL_isSo_297 rfl (lv_at hl 3 rfl) ?_
    refine lv_if_gt (tgt := 317) hx hb dL_isSo_298 (by decide) (fun _ => ?_) (fun c1 => absurd (by rw [h_cards]; exact nI_lt hc0 (by omega)) c1)
    refine lv_aload_n hx hb dL_isSo_317 rfl (lv_at hl 5 rfl) ?_
    refine lv_iconst (v := (nI 1)) hx hb dL_isSo_318 (by decide) ?_
    refine dX_told hCF hK hA hfl hE hZ9 (nI 1) (cwV 1 hts (TBL_V mw_462 mw_463 mw_464 mw_2 mw_465) rfl rfl rfl pmX5_told ⟨Nat.le_of_ble_eq_true rfl, Nat.le_of_ble_eq_true rfl⟩) hu hS hl.1 (Nat.le_of_ble_eq_true rfl) ⟨by omega, by omega⟩ dL_isSo_319 (fun H locs q9 ce u' hth _ _ _ _ _ => absurd hth (by rw [(told_0 Z (by omega))]; omega)) (fun H locs u _ hu hS => ?_)
    refine lv_sipush (v := (nI 200)) hx hb dL_isSo_322 (by decide) ?_
    refine lv_icmp_gt (tgt := 344) hx hb dL_isSo_325 (by decide) (fun c1 => absurd c1 (by rw [done_told]; exact nI_nlt (by omega) (by omega))) (fun _ => ?_)
    refine lv_aload_n hx hb dL_isSo_328 rfl (lv_at hl 5 rfl) ?_
    refine lv_bipush (v := (nI 10)) hx hb dL_isSo_329 (by decide) ?_
    refine lv_iconst (v := (nI 0)) hx hb dL_isSo_331 (by decide) ?_
    refine kU (As := [.ref (a 0), .int (nI 10), .int (nI 0)]) (rest := []) hCF hK hE hZ9 (hA_card l D cI cJ hfl a hu (nI 10) (nI 0)) (vx_cwSW 3 hts (TBL_SWc mw_483 mw_484 mw_152 mw_485) rfl rfl rfl pmL_card.2 ⟨Nat.le_of_ble_eq_true rfl, Nat.le_of_ble_eq_true rfl⟩) hS hA rfl hl.1 rfl (Nat.le_of_ble_eq_true rfl) ⟨by omega, by omega⟩ dL_isSo_332 (fun H locs u hu hS => ?_)
    refine lv_ldc (v := -99999999) hx hb hown (hts (.constant RL 16 (-99999999)) (List.mem_cons_of_mem _ mw_3)) dL_isSo_335 ?_
    refine lv_icmp_ne (tgt := 344) hx hb dL_isSo_337 (by decide) (fun c1 => absurd (card_10 Z) c1) (fun _ => ?_)
    refine lv_iconst (v := (nI 1)) hx hb dL_isSo_340 (by decide) ?_
    refine lv_goto (tgt := 345) hx hb dL_isSo_341 (by decide) ?_
    refine W.widen (k := 400) (n := 2400) (by omega) (by omega) ?_
    rw [List.append_nil] at hS
    exact kret _ _ _ _ _ u rfl hu hS dL_isSo_345
set_option maxHeartbeats 4000000 in
set_option maxRecDepth 100000 in
theorem so_ok (l : Launch) (D : va_G) (cI cJ : ClassId) (hfl : l.stackTraces = false) (a : Nat → Nat) {Z : AS} {u : PC} (hu : okU Z u) : CtM l D [(cI, .int), (cJ, .long)] yL_isSo wtL_isSo rmS [.ref (a 0)] (WU cI cJ a u) (WU cI cJ a) (okU Z) (nI 1) 400 2400 := by
  refine CtM.ofZ (cc := cL_isSo) (maxL := 9) rfl (by decide) rfl (Nat.le_of_ble_eq_true rfl) (Or.inr rfl) ?_
  intro p e s m9 args below meth c A H0 Q9 ls X hE hZ9 hS hl kret
  have X0 := X
  have hZ := hu.1
  have hCF := X.1
  obtain ⟨⟨hx, hb, hml, hown, hts⟩, hK, hA⟩ := X
  have hl : lv_has ls 9 [(0, .ref (a 0))] := hl
  replace hS : HS D A H0 (WU cI cJ a u ++ []) H0 [] := hS.cast (List.append_nil _).symm
  have rc : rmS.cells = 400 := rfl
  have rs : rmS.slots = 2400 := rfl
  refine lv_iconst (v := (nI 0)) hx hb dL_isSo_0 (by decide) ?_
  refine lv_istore_n (lv' := [(1, .int (nI 0)), (0, .ref (a 0))]) hx hb dL_isSo_1 rfl hl (by decide) rfl (fun ls hl => ?_)
  refine lv_iconst (v := (nI 0)) hx hb dL_isSo_2 (by decide) ?_
  refine lv_istore_n (lv' := [(2, .int (nI 0)), (1, .int (nI 0)), (0, .ref (a 0))]) hx hb dL_isSo_3 rfl hl (by decide) rfl (fun ls hl => ?_)
  refine lv_iconst (v := (nI 0)) hx hb dL_isSo_4 (by decide) ?_
  refine lv_istore_n (lv' := [(3, .int (nI 0)), (2, .int (nI 0)), (1, .int (nI 0)), (0, .ref (a 0))]) hx hb dL_isSo_5 rfl hl (by decide) rfl (fun ls hl => ?_)
  refine lv_iconst (v := (nI 1)) hx hb dL_isSo_6 (by decide) ?_
  refine lv_istore (lv' := [(4, .int (nI 1)), (3, .int (nI 0)), (2, .int (nI 0)), (1, .int (nI 0)), (0, .ref (a 0))]) hx hb dL_isSo_7 hl (by decide) rfl (fun ls hl => ?_)
  refine lv_iconst (v := (nI 0)) hx hb dL_isSo_9 (by decide) ?_
  refine lv_istore (lv' := [(5, .int (nI 0)), (4, .int (nI 1)), (3, .int (nI 0)), (2, .int (nI 0)), (1, .int (nI 0)), (0, .ref (a 0))]) hx hb dL_isSo_10 hl (by decide) rfl (fun ls hl => ?_)
  refine so_outer X0 hfl hE hZ9 hZ (fun u H locs ls seen cards hid hsn hu hS hl => ?_) 10 0 u _ _ _ _ _ _ rfl (SeenI.zero _) hu hS (lv_sub hl [0, 1, 2, 3, 4, 5] rfl)
  refine lv_aload_n hx hb dL_isSo_120 rfl (lv_at hl 5 rfl) ?_
  refine dX_moves hCF hK hA (cwV 0 hts (TBL_V mw_234 mw_235 mw_236 mw_2 mw_237) rfl rfl rfl pmX5_moves ⟨Nat.le_of_ble_eq_true rfl, Nat.le_of_ble_eq_true rfl⟩) hu hS hl.1 (Nat.le_of_ble_eq_true rfl) ⟨by omega, by omega⟩ dL_isSo_121 (fun H locs u hu hS => ?_)
  refine lv_istore (lv' := [(5, .int (aMoves Z).2.1), (4, .int (nI 1)), (3, .int hid), (2, .int cards), (1, .int seen), (0, .ref (a 0))]) hx hb dL_isSo_124 hl (by decide) rfl (fun ls hl => ?_)
  refine lv_iconst (v := (-1)) hx hb dL_isSo_126 (by decide) ?_
  refine lv_istore (lv' := [(6, .int (-1)), (5, .int (aMoves Z).2.1), (4, .int (nI 1)), (3, .int hid), (2, .int cards), (1, .int seen), (0, .ref (a 0))]) hx hb dL_isSo_127 hl (by decide) rfl (fun ls hl => ?_)
  refine lv_iconst (v := (nI 0)) hx hb dL_isSo_129 (by decide) ?_
  refine lv_istore (lv' := [(7, .int (nI 0)), (6, .int (-1)), (5, .int (aMoves Z).2.1), (4, .int (nI 1)), (3, .int hid), (2, .int cards), (1, .int seen), (0, .ref (a 0))]) hx hb dL_isSo_130 hl (by decide) rfl (fun ls hl => ?_)
  refine so_moves X0 hfl hE hZ9 hZ (fun u H locs ls hu hS hl => ?_) (mvs Z.2.1 (cur Z.2.2.1)).length 0 u _ _ _ _ (Nat.zero_add _) (Or.inl ⟨rfl, rfl⟩) hu hS (lv_sub hl [0, 1, 2, 3, 4, 5, 6, 7] rfl)
  exact so_end X0 hfl hE hZ9 hZ hsn kret u _ _ _ hu hS hl
