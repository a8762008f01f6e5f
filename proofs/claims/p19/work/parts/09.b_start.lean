/-! ===== the walk of the law's body ===== -/
theorem TBL_C0 {y : MethodName} {by_ : ByteArray} {n : Nat} {ret : Option FieldType} (h5 : Cond.code y by_ n ret ∈ TBL) : GoodIn TBL (Cond.code y by_ n ret :: TBL) := by
  have h9 : ∀ w ∈ (Cond.code y by_ n ret :: TBL), w ∈ TBL := by
    intro w h
    rcases List.mem_cons.mp h with rfl | h <;> assumption
  exact fun w h => ⟨h9 w h, good_of_word (TBL_good w (h9 w h))⟩
theorem nest_tbl : ∀ w ∈ nestL, w.onTables = true ∧ w ∈ lw_tbl := by decide +kernel
theorem exL_tbl : ∀ w ∈ exL, w ∈ lw_tbl := by decide +kernel
theorem txL_tbl : ∀ t ∈ txL, Cond.stringRef RX5 t.1 t.2 ∈ lw_tbl := by decide +kernel
theorem lay_tbl : Cond.laysStatic Bundle.tN "UNASSIGNED_STACK" Bundle.steD ∈ lw_tbl ∧ Cond.laysStatic Bundle.tN "SUPPRESSED_SENTINEL" Bundle.listD ∈ lw_tbl ∧ Cond.initialized Bundle.tN ∈ lw_tbl := by decide +kernel
theorem rul0_ok : RR rul0 R0 := by
  refine ⟨fun k hk => ?_, R0_ok⟩
  have hk' : k = 0 ∨ k = 1 ∨ k = 2 ∨ k = 3 ∨ k = 4 ∨ k = 5 ∨ k = 6 ∨ k = 7 ∨ k = 8 := by omega
  rcases hk' with rfl | rfl | rfl | rfl | rfl | rfl | rfl | rfl | rfl <;> rfl
set_option maxHeartbeats 4000000 in
set_option maxRecDepth 100000 in
theorem whole_known {s : State} {args : Array Value} (hts : ∀ w ∈ lw_tbl, w.before args s = true) : ∃ (D : va_G) (cI cJ : ClassId), KN D [(cI, .int), (cJ, .long)] s := by
  have hts' : ∀ w ∈ TBL, w.before args s = true := fun w h => hts w (wsL_law_in w h)
  obtain ⟨c0, i0, k0⟩ := u_known (C := RX0) (T := TX0) (N := 2) (n := 2) hts inX0 (hts' (.instantiable RX0 2) mw_28)
  obtain ⟨c1, i1, k1⟩ := u_known (C := RX1) (T := TX1) (N := 9) (n := 9) hts inX1 (hts' (.instantiable RX1 9) mw_11)
  obtain ⟨c2, i2, k2⟩ := u_known (C := RX2) (T := TX2) (N := 7) (n := 7) hts inX2 (hts' (.instantiable RX2 7) mw_24)
  obtain ⟨c3, i3, k3⟩ := u_known (C := RX3) (T := TX3) (N := 3) (n := 3) hts inX3 (hts' (.instantiable RX3 3) mw_20)
  obtain ⟨c4, i4, k4⟩ := u_known (C := RX4) (T := TX4) (N := 7) (n := 7) hts inX4 (hts' (.instantiable RX4 7) mw_16)
  obtain ⟨c5, i5, k5⟩ := u_known (C := RX5) (T := TX5) (N := 10) (n := 10) hts inX5 (hts' (.instantiable RX5 10) mw_1)
  obtain ⟨dC, dI, hKc⟩ : ∃ (dC : Nat → ClassId) (dI : Nat → Nat → Nat), ∀ (k : Nat) (q : vw_C), vwCl[k]? = some q → u_Kn s q.1 q.2.1 q.2.2 (dC k) (dI k) := by
    refine ⟨fun k => if k = 0 then c0 else if k = 1 then c1 else if k = 2 then c2 else if k = 3 then c3 else if k = 4 then c4 else c5, fun k => if k = 0 then i0 else if k = 1 then i1 else if k = 2 then i2 else if k = 3 then i3 else if k = 4 then i4 else i5, ?_⟩
    intro k q hq
    match k, hq with
    | 0, hq => cases hq; exact k0
    | 1, hq => cases hq; exact k1
    | 2, hq => cases hq; exact k2
    | 3, hq => cases hq; exact k3
    | 4, hq => cases hq; exact k4
    | 5, hq => cases hq; exact k5
    | k + 6, hq => simp [vwCl] at hq
  obtain ⟨cI, kI, eI9, fI, gI, hI⟩ := Cond.arrayClass_spec (hts' (.arrayClass .int) mw_52)
  obtain ⟨cJ, kJ, eJ9, fJ, gJ, hJ⟩ := Cond.arrayClass_spec (hts' (.arrayClass .long) mw_67)
  refine ⟨(dC, dI), cI, cJ, ⟨hKc, fun k q hk => ?_⟩, fun w hw => va_tabs (nest_tbl w hw).1 rfl (hts w (nest_tbl w hw).2)⟩
  match k, hk with
  | 0, hk => cases hk; exact ⟨fun n z => ⟨fun k h => (by cases h), kI, gI, eI9, hI⟩, fI⟩
  | 1, hk => cases hk; exact ⟨fun n z => ⟨fun k h => (by cases h), kJ, gJ, eJ9, hJ⟩, fJ⟩
  | k + 2, hk => simp at hk
theorem whole_ex {s : State} {args : Array Value} {D : va_G} {tys : List (ClassId × FieldType)} (hts : ∀ w ∈ lw_tbl, w.before args s = true) (hK : KN D tys s) (hgv : (Jvm.Cond.and given_1 narrow_1).before args s = true) : EXW s ∧ EXZ (fun q : Nat => s.heap.size ≤ q) s s.heap := by
  have hq := flat_of_before _ hgv
  have hcur : s.vm.findClass RX5 = some (D.1 5) := (hK.1.1 5 _ rfl).2.1
  have hA : ∀ a : Nat, a < s.heap.size → ¬ (fun q : Nat => s.heap.size ≤ q) a := fun a h => Nat.not_le.mpr h
  refine ⟨⟨fun w hw => va_tabs (exL_face w hw).2 rfl (hts w (exL_tbl w hw)), fun t ht => ?_, ?_⟩, ?_, ?_⟩
  · have h1 := hts _ (txL_tbl t ht)
    obtain ⟨k, cf, i, a, -, -, -, -, -, h2⟩ := Cond.stringRef_spec hcur h1
    exact ⟨a, vk_R.of h1 h2⟩
  · exact va_Nc.of (hq (.not (.castable "java/lang/IllegalStateException" "java/lang/IllegalArgumentException")) (by decide +kernel))
  · exact vx_Zqof (hts _ lay_tbl.1) (hts _ lay_tbl.2.2) (hq (.isRef (.static Bundle.tN "UNASSIGNED_STACK" Bundle.steD)) (by decide +kernel)) hA
  · exact vx_Zqof (hts _ lay_tbl.2.1) (hts _ lay_tbl.2.2) (hq (.isRef (.static Bundle.tN "SUPPRESSED_SENTINEL" Bundle.listD)) (by decide +kernel)) hA
set_option maxHeartbeats 4000000 in
set_option maxRecDepth 100000 in
/-- from the entry, for every script of at most 260 ints, the law comes to its end with true -/
theorem whole_start {p : Program} {e : Env} {s : State} {m : MethodId} {below : List Frame} {meth : Method} {c : Code} (l : Launch) (hflags : l.flags = flags0) {b L : Nat} {xs : Nat → Int32} (hL : L ≤ 260) (C0 : lw_At p s m meth c b L xs) : W p l e room_1 s m #[Value.ref b] below meth c s.heap [] 0 0 (lw_Z below #[Value.ref b] s) (entryFrame m ([Value.ref b] : List Value).toArray 6) := by
  obtain ⟨hx, hb, hr, hml, hown, hts, hX, hbl, hlocks, hgv⟩ := id C0
  have hts' : ∀ w ∈ TBL, w.before #[Value.ref b] s = true := fun w h => hts w (wsL_law_in w h)
  have hfl : l.stackTraces = false := by unfold Launch.stackTraces; rw [hflags]; decide +kernel
  obtain ⟨D, cI, cJ, hK⟩ := whole_known hts
  obtain ⟨hE, hZ⟩ := whole_ex hts hK hgv
  have hown : s.vm.findClass RL = some m.cls := hown
  have hA : ∀ q : Nat, s.heap.size ≤ q → (fun q : Nat => s.heap.size ≤ q) q := fun _ h => h
  have hCF : CallFix p m c code 6 s #[.ref b] TBL RL := ⟨hx, hb, hml, hown, hts'⟩
  have X : LCx p l s m c b L xs D cI cJ := ⟨hx, hb, hml, hown, hts', hK, hE, hZ, hX, hbl, hL, hfl⟩
  obtain ⟨P', D', T', hF, hC⟩ := C_init rul0_ok (show z1 9 = nI 0 from rfl) zI zI zJ
  have hS : HS D (fun q : Nat => s.heap.size ≤ q) s.heap [] s.heap [] := ⟨fun k q h => by simp at h, ⟨fun i j p q h => by simp at h, fun k q h => by simp at h⟩, va_S.rf⟩
  have hl := lv_entry ([.ref b]) (n := 6) (Nat.le_of_ble_eq_true rfl)
  rw [lg_entry_eq]
  generalize (lg_sl ([.ref b]) ++ List.replicate (6 - (lg_sl ([.ref b])).length) Slot.unset).toArray = ls at hl ⊢
  have hl : lv_has ls 6 [(0, .ref b)] := hl
  refine r_new (ci := 5) (fs := [.null, .null, .null, .null, .null, .null, .null, .int 0, .int 0, .int 0]) (C := RX5) (T := TX5) (N := 10) hx hb hts' inlX5 tyX5 tyX5_ok hown (hts' (.classLink RL 9 RX5) mw_0) (hts' (.instantiable RX5 10) mw_1) (hts' (.initialized RX5) mw_2) hK hS hA rfl (fun j hj => by rcases (show j = 0 ∨ j = 1 ∨ j = 2 ∨ j = 3 ∨ j = 4 ∨ j = 5 ∨ j = 6 ∨ j = 7 ∨ j = 8 ∨ j = 9 by omega) with rfl | rfl | rfl | rfl | rfl | rfl | rfl | rfl | rfl | rfl <;> rfl) (Nat.le_of_ble_eq_true rfl) (Nat.le_of_ble_eq_true rfl) dL_law_0 (fun q0 H hS => ?_)
  refine lv_dup hx hb dL_law_3 rfl ?_
  refine kI_n (As := []) (rest := [.ref q0]) (wr := []) hCF hK (n_X5 l D cI cJ q0 P' D' T' hF) (cwI 0 hts' (TBL_C0 mw_6) rfl rfl rfl (hts' (.initialized RX5) mw_2) (hts' (.methodLink RL 108 yX5_init) mw_4) (hts' (.instanceMethod yX5_init) mw_5) rfl pmX5_init.2 ⟨Nat.le_of_ble_eq_true rfl, Nat.le_of_ble_eq_true rfl⟩) hS hA [0] [] rfl rfl rfl rfl (by decide) rfl hl.1 rfl (Nat.le_of_ble_eq_true rfl) ⟨Nat.le_of_ble_eq_true rfl, Nat.le_of_ble_eq_true rfl⟩ dL_law_4 (fun u H locs hS => ?_)
  replace hS : HS D (fun q : Nat => s.heap.size ≤ q) s.heap (WP cI cJ (adr q0 u) (u 32) (u 33) P' rul0 rul0 T' zJ zI zI zI zJ D' zI) H locs := hS
  refine lv_astore_n (lv' := [(1, .ref q0), (0, .ref b)]) hx hb dL_law_7 rfl hl (by decide) rfl (fun ls hl => ?_)
  refine r_new (ci := 5) (fs := [.null, .null, .null, .null, .null, .null, .null, .int 0, .int 0, .int 0]) (C := RX5) (T := TX5) (N := 10) hx hb hts' inlX5 tyX5 tyX5_ok hown (hts' (.classLink RL 9 RX5) mw_0) (hts' (.instantiable RX5 10) mw_1) (hts' (.initialized RX5) mw_2) hK hS hA rfl (fun j hj => by rcases (show j = 0 ∨ j = 1 ∨ j = 2 ∨ j = 3 ∨ j = 4 ∨ j = 5 ∨ j = 6 ∨ j = 7 ∨ j = 8 ∨ j = 9 by omega) with rfl | rfl | rfl | rfl | rfl | rfl | rfl | rfl | rfl | rfl <;> rfl) (Nat.le_of_ble_eq_true rfl) (Nat.le_of_ble_eq_true rfl) dL_law_8 (fun q1 H hS => ?_)
  refine lv_dup hx hb dL_law_11 rfl ?_
  refine kI_n (As := []) (rest := [.ref q1]) (wr := WP cI cJ (adr q0 u) (u 32) (u 33) P' rul0 rul0 T' zJ zI zI zI zJ D' zI) hCF hK (n_X5 l D cI cJ q1 P' D' T' hF) (cwI 0 hts' (TBL_C0 mw_6) rfl rfl rfl (hts' (.initialized RX5) mw_2) (hts' (.methodLink RL 108 yX5_init) mw_4) (hts' (.instanceMethod yX5_init) mw_5) rfl pmX5_init.2 ⟨Nat.le_of_ble_eq_true rfl, Nat.le_of_ble_eq_true rfl⟩) hS hA [33] [0, 1, 2, 3, 4, 5, 6, 7, 8, 9, 10, 11, 12, 13, 14, 15, 16, 17, 18, 19, 20, 21, 22, 23, 24, 25, 26, 27, 28, 29, 30, 31, 32] rfl rfl rfl rfl (by decide) rfl hl.1 rfl (Nat.le_of_ble_eq_true rfl) ⟨Nat.le_of_ble_eq_true rfl, Nat.le_of_ble_eq_true rfl⟩ dL_law_12 (fun u2 H locs hS => ?_)
  replace hS : HS D (fun q : Nat => s.heap.size ≤ q) s.heap (WU cI cJ (adr q0 u) (u 32, u 33, P', rul0, rul0, T', zJ, zI, zI, zI, zJ, D', zI) ++ WU cI cJ (adr q1 u2) (u2 32, u2 33, P', rul0, rul0, T', zJ, zI, zI, zI, zJ, D', zI)) H locs := hS
  refine lv_astore_n (lv' := [(2, .ref q1), (1, .ref q0), (0, .ref b)]) hx hb dL_law_15 rfl hl (by decide) rfl (fun ls hl => ?_)
  refine lv_iconst (v := (nI 0)) hx hb dL_law_16 (by decide) ?_
  refine lv_istore_n (lv' := [(3, .int (nI 0)), (2, .ref q1), (1, .ref q0), (0, .ref b)]) hx hb dL_law_17 rfl hl (by decide) rfl (fun ls hl => ?_)
  refine law_loop X (a := adr q0 u) (a2 := adr q1 u2) (c0 := 72) (s0 := 7152) (by omega) (by omega) (fun Z u9 u8 H locs ls hu hu2 hS hl => ?_) 90 0 A0 (u 32, u 33, P', rul0, rul0, T', zJ, zI, zI, zI, zJ, D', zI) (u2 32, u2 33, P', rul0, rul0, T', zJ, zI, zI, zI, zJ, D', zI) H locs ls rfl ⟨A0_ok, hC⟩ ⟨A0_ok, hC⟩ hS hl
  refine law_end X (by omega) (by omega) (fun H locs ls cells slots hc hs hq => ?_) hu hS hl
  refine va_forget hq ?_
  refine W.widen (k := 600104) (n := 7301314) hc hs ?_
  exact lw_ret hx hb hr hlocks dL_law_118
