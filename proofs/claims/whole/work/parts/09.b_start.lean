/-! ===== the walk of the law's body ===== -/
theorem TBL_C0 {y : MethodName} {by_ : ByteArray} {n : Nat} {ret : Option FieldType} (h5 : Cond.code y by_ n ret ∈ TBL) : GoodIn TBL (Cond.code y by_ n ret :: TBL) := by
  have h9 : ∀ w ∈ (Cond.code y by_ n ret :: TBL), w ∈ TBL := by
    intro w h
    rcases List.mem_cons.mp h with rfl | h <;> assumption
  exact fun w h => ⟨h9 w h, good_of_word (TBL_good w (h9 w h))⟩
theorem nest_tbl : ∀ w ∈ nestL, w.onTables = true ∧ w ∈ lw_tbl := by decide +kernel
theorem exL_tbl : ∀ w ∈ exL, w ∈ lw_tbl := by decide +kernel
theorem txL_tbl : ∀ t ∈ txL, Cond.stringRef RX5 t.1 t.2 ∈ lw_tbl := by decide +kernel
theorem lay_tbl : Cond.laysStatic Bundle.tN "UNASSIGNED_STACK" Bundle.steD ∈ lw_tbl ∧ Cond.laysStatic Bundle.tN "SUPPRESSED_SENTINEL" Bundle.listD ∈ lw_tbl ∧ Cond.initialized Bundle.tN ∈ lw_tbl := by decide +kernel
theorem rul0_ok : RR rul0 R0 := by
  refine ⟨fun k hk => ?_, R0_ok⟩
  have hk' : k = 0 ∨ k = 1 ∨ k = 2 ∨ k = 3 ∨ k = 4 ∨ k = 5 ∨ k = 6 ∨ k = 7 ∨ k = 8 := by omega
  rcases hk' with rfl | rfl | rfl | rfl | rfl | rfl | rfl | rfl | rfl <;> rfl
theorem mI0_ok : ∀ k, k < 9 → mI0 0 (k + 1) = nI (R0 k) := by
  intro k hk
  have hk' : k = 0 ∨ k = 1 ∨ k = 2 ∨ k = 3 ∨ k = 4 ∨ k = 5 ∨ k = 6 ∨ k = 7 ∨ k = 8 := by omega
  rcases hk' with rfl | rfl | rfl | rfl | rfl | rfl | rfl | rfl | rfl <;> rfl
set_option maxHeartbeats 4000000 in
set_option maxRecDepth 100000 in
theorem whole_known {s : State} {args : Array Value} (hts : ∀ w ∈ lw_tbl, w.before args s = true) : ∃ (D : va_G) (cI cJ : ClassId), KN D [(cI, .int), (cJ, .long)] s := by
  have hts' : ∀ w ∈ TBL, w.before args s = true := fun w h => hts w (wsL_law_in w h)
  obtain ⟨c0, i0, k0⟩ := u_known (C := RX0) (T := TX0) (N := 2) (n := 2) hts inX0 (hts' (.instantiable RX0 2) mw_31)
  obtain ⟨c1, i1, k1⟩ := u_known (C := RX1) (T := TX1) (N := 9) (n := 9) hts inX1 (hts' (.instantiable RX1 9) mw_14)
  obtain ⟨c2, i2, k2⟩ := u_known (C := RX2) (T := TX2) (N := 7) (n := 7) hts inX2 (hts' (.instantiable RX2 7) mw_27)
  obtain ⟨c3, i3, k3⟩ := u_known (C := RX3) (T := TX3) (N := 3) (n := 3) hts inX3 (hts' (.instantiable RX3 3) mw_23)
  obtain ⟨c4, i4, k4⟩ := u_known (C := RX4) (T := TX4) (N := 7) (n := 7) hts inX4 (hts' (.instantiable RX4 7) mw_19)
  obtain ⟨c5, i5, k5⟩ := u_known (C := RX5) (T := TX5) (N := 10) (n := 10) hts inX5 (hts' (.instantiable RX5 10) mw_1)
  obtain ⟨c6, i6, k6⟩ := u_known (C := RX6) (T := TX6) (N := 32) (n := 32) hts inX6 (hts' (.instantiable RX6 32) mw_4)
  obtain ⟨dC, dI, hKc⟩ : ∃ (dC : Nat → ClassId) (dI : Nat → Nat → Nat), ∀ (k : Nat) (q : vw_C), vwCl[k]? = some q → u_Kn s q.1 q.2.1 q.2.2 (dC k) (dI k) := by
    refine ⟨fun k => if k = 0 then c0 else if k = 1 then c1 else if k = 2 then c2 else if k = 3 then c3 else if k = 4 then c4 else if k = 5 then c5 else c6, fun k => if k = 0 then i0 else if k = 1 then i1 else if k = 2 then i2 else if k = 3 then i3 else if k = 4 then i4 else if k = 5 then i5 else i6, ?_⟩
    intro k q hq
    match k, hq with
    | 0, hq => cases hq; exact k0
    | 1, hq => cases hq; exact k1
    | 2, hq => cases hq; exact k2
    | 3, hq => cases hq; exact k3
    | 4, hq => cases hq; exact k4
    | 5, hq => cases hq; exact k5
    | 6, hq => cases hq; exact k6
    | k + 7, hq => simp [vwCl] at hq
  obtain ⟨cI, kI, eI9, fI, gI, hI⟩ := Cond.arrayClass_spec (hts' (.arrayClass .int) mw_55)
  obtain ⟨cJ, kJ, eJ9, fJ, gJ, hJ⟩ := Cond.arrayClass_spec (hts' (.arrayClass .long) mw_6)
  refine ⟨(dC, dI), cI, cJ, ⟨hKc, fun k q hk => ?_⟩, fun w hw => va_tabs (nest_tbl w hw).1 rfl (hts w (nest_tbl w hw).2)⟩
  match k, hk with
  | 0, hk => cases hk; exact ⟨fun n z => ⟨fun k h => (by cases h), kI, gI, eI9, hI⟩, fI⟩
  | 1, hk => cases hk; exact ⟨fun n z => ⟨fun k h => (by cases h), kJ, gJ, eJ9, hJ⟩, fJ⟩
  | k + 2, hk => simp at hk
theorem whole_ex {s : State} {args : Array Value} {D : va_G} {tys : List (ClassId × FieldType)} (hts : ∀ w ∈ lw_tbl, w.before args s = true) (hK : KN D tys s) (hgv : (Jvm.Cond.and given_1 narrow_1).before args s = true) : EXW s ∧ EXZ (fun q : Nat => s.heap.size ≤ q) s s.heap := by
  have hq := flat_of_before _ hgv
  have hcur : s.vm.findClass RX5 = some (D.1 5) := (hK.1.1 5 _ rfl).2.1
  have hA : ∀ a : Nat, a < s.heap.size → ¬ (fun q : Nat => s.heap.size ≤ q) a := fun a h => Nat.not_le.mpr h
  refine ⟨⟨fun w hw => va_tabs (exL_face w hw).2 rfl (hts w (exL_tbl w hw)), fun t ht => ?_, ?_⟩, ?_, ?_⟩
  · have h1 := hts _ (txL_tbl t ht)
    obtain ⟨k, cf, i, a, -, -, -, -, -, h2⟩ := Cond.stringRef_spec hcur h1
    exact ⟨a, vk_R.of h1 h2⟩
  · exact va_Nc.of (hq (.not (.castable "java/lang/IllegalStateException" "java/lang/IllegalArgumentException")) (by decide +kernel))
  · exact vx_Zqof (hts _ lay_tbl.1) (hts _ lay_tbl.2.2) (hq (.isRef (.static Bundle.tN "UNASSIGNED_STACK" Bundle.steD)) (by decide +kernel)) hA
  · exact vx_Zqof (hts _ lay_tbl.2.1) (hts _ lay_tbl.2.2) (hq (.isRef (.static Bundle.tN "SUPPRESSED_SENTINEL" Bundle.listD)) (by decide +kernel)) hA
set_option maxHeartbeats 4000000 in
set_option maxRecDepth 100000 in
/-- YOUR PART: from the entry, for every script of at most 2560 ints, the law comes to its end with true ('hflags': the launch's flags, for a law that throws: no stack traces) -/
theorem whole_start {p : Program} {e : Env} {s : State} {m : MethodId} {below : List Frame} {meth : Method} {c : Code} (l : Launch) (hflags : l.flags = flags0) {b L : Nat} {xs : Nat → Int32} (hL : L ≤ 2560) (C0 : lw_At p s m meth c b L xs) : W p l e room_1 s m #[Value.ref b] below meth c s.heap [] 0 0 (lw_Z below #[Value.ref b] s) (entryFrame m ([Value.ref b] : List Value).toArray 7) := by
  obtain ⟨hx, hb, hr, hml, hown, hts, hX, hbl, hlocks, hgv⟩ := id C0
  have hts' : ∀ w ∈ TBL, w.before #[Value.ref b] s = true := fun w h => hts w (wsL_law_in w h)
  have hfl : l.stackTraces = false := by unfold Launch.stackTraces; rw [hflags]; decide +kernel
  obtain ⟨D, cI, cJ, hK⟩ := whole_known hts
  obtain ⟨hE, hZ⟩ := whole_ex hts hK hgv
  have hown : s.vm.findClass RL = some m.cls := hown
  have hA : ∀ q : Nat, s.heap.size ≤ q → (fun q : Nat => s.heap.size ≤ q) q := fun _ h => h
  have hCF : CallFix p m c code 7 s #[.ref b] TBL RL := ⟨hx, hb, hml, hown, hts'⟩
  have X : LCx p l s m c b L xs D cI cJ := ⟨hx, hb, hml, hown, hts', hK, hE, hZ, hX, hbl, hL, hfl⟩
  obtain ⟨P', D', T', hF, hC⟩ := C_init rul0_ok (show z1 9 = nI 0 from rfl) zI zI zJ
  obtain ⟨I1, I2, L2, L3, hF1, hF2, hF3, hM⟩ := M_init mI0_ok (show mI0 0 13 = nI 0 from rfl) (show mI0 0 12 = nI 0 from rfl) (show mI0 0 14 = nI 0 from rfl) zJ
  have hS : HS D (fun q : Nat => s.heap.size ≤ q) s.heap [] s.heap [] := ⟨fun k q h => by simp at h, ⟨fun i j p q h => by simp at h, fun k q h => by simp at h⟩, va_S.rf⟩
  have hl := lv_entry ([.ref b]) (n := 7) (Nat.le_of_ble_eq_true rfl)
  rw [lg_entry_eq]
  generalize (lg_sl ([.ref b]) ++ List.replicate (7 - (lg_sl ([.ref b])).length) Slot.unset).toArray = ls at hl ⊢
  have hl : lv_has ls 7 [(0, .ref b)] := hl
  refine r_new (ci := 5) (fs := [.null, .null, .null, .null, .null, .null, .null, .int 0, .int 0, .int 0]) (C := RX5) (T := TX5) (N := 10) hx hb hts' inlX5 tyX5 tyX5_ok hown (hts' (.classLink RL 8 RX5) mw_0) (hts' (.instantiable RX5 10) mw_1) (hts' (.initialized RX5) mw_2) hK hS hA rfl (fun j hj => by rcases (show j = 0 ∨ j = 1 ∨ j = 2 ∨ j = 3 ∨ j = 4 ∨ j = 5 ∨ j = 6 ∨ j = 7 ∨ j = 8 ∨ j = 9 by omega) with rfl | rfl | rfl | rfl | rfl | rfl | rfl | rfl | rfl | rfl <;> rfl) (Nat.le_of_ble_eq_true rfl) (Nat.le_of_ble_eq_true rfl) dL_law_0 (fun q0 H hS => ?_)
  refine lv_dup hx hb dL_law_3 rfl ?_
  refine kI_n (As := []) (rest := [.ref q0]) (wr := []) hCF hK (n_X5 l D cI cJ q0 P' D' T' hF) (cwI 0 hts' (TBL_C0 mw_9) rfl rfl rfl (hts' (.initialized RX5) mw_2) (hts' (.methodLink RL 60 yX5_init) mw_7) (hts' (.instanceMethod yX5_init) mw_8) rfl pmX5_init.2 ⟨Nat.le_of_ble_eq_true rfl, Nat.le_of_ble_eq_true rfl⟩) hS hA [0] [] rfl rfl rfl rfl (by decide) rfl hl.1 rfl (Nat.le_of_ble_eq_true rfl) ⟨Nat.le_of_ble_eq_true rfl, Nat.le_of_ble_eq_true rfl⟩ dL_law_4 (fun u H locs hS => ?_)
  replace hS : HS D (fun q : Nat => s.heap.size ≤ q) s.heap (WP cI cJ (adr q0 u) (u 32) (u 33) P' rul0 rul0 T' zJ zI zI zI zJ D' zI) H locs := hS
  refine lv_astore_n (lv' := [(1, .ref q0), (0, .ref b)]) hx hb dL_law_7 rfl hl (by decide) rfl (fun ls hl => ?_)
  refine r_new (ci := 6) (fs := [.int 0, .int 0, .int 0, .int 0, .int 0, .int 0, .int 0, .int 0, .int 0, .int 0, .null, .null, .int 0, .int 0, .int 0, .null, .null, .null, .null, .null, .null, .int 0, .null, .int 0, .int 0, .null, .null, .null, .null, .int 0, .null, .null]) (C := RX6) (T := TX6) (N := 32) hx hb hts' inlX6 tyX6 tyX6_ok hown (hts' (.classLink RL 61 RX6) mw_3) (hts' (.instantiable RX6 32) mw_4) (hts' (.initialized RX6) mw_5) hK hS hA rfl (fun j hj => by rcases (show j = 0 ∨ j = 1 ∨ j = 2 ∨ j = 3 ∨ j = 4 ∨ j = 5 ∨ j = 6 ∨ j = 7 ∨ j = 8 ∨ j = 9 ∨ j = 10 ∨ j = 11 ∨ j = 12 ∨ j = 13 ∨ j = 14 ∨ j = 15 ∨ j = 16 ∨ j = 17 ∨ j = 18 ∨ j = 19 ∨ j = 20 ∨ j = 21 ∨ j = 22 ∨ j = 23 ∨ j = 24 ∨ j = 25 ∨ j = 26 ∨ j = 27 ∨ j = 28 ∨ j = 29 ∨ j = 30 ∨ j = 31 by omega) with rfl | rfl | rfl | rfl | rfl | rfl | rfl | rfl | rfl | rfl | rfl | rfl | rfl | rfl | rfl | rfl | rfl | rfl | rfl | rfl | rfl | rfl | rfl | rfl | rfl | rfl | rfl | rfl | rfl | rfl | rfl | rfl <;> rfl) (Nat.le_of_ble_eq_true rfl) (Nat.le_of_ble_eq_true rfl) dL_law_8 (fun q1 H hS => ?_)
  refine lv_dup hx hb dL_law_11 rfl ?_
  refine kI_n (As := []) (rest := [.ref q1]) (wr := WP cI cJ (adr q0 u) (u 32) (u 33) P' rul0 rul0 T' zJ zI zI zI zJ D' zI) hCF hK (n_X6 l D cI cJ q1 I1 I2 L2 L3 hF1 hF2 hF3) (cwI 0 hts' (TBL_C0 mw_154) rfl rfl rfl (hts' (.initialized RX6) mw_5) (hts' (.methodLink RL 63 yX6_init) mw_152) (hts' (.instanceMethod yX6_init) mw_153) rfl pmX6_init.2 ⟨Nat.le_of_ble_eq_true rfl, Nat.le_of_ble_eq_true rfl⟩) hS hA [33] [0, 1, 2, 3, 4, 5, 6, 7, 8, 9, 10, 11, 12, 13, 14, 15, 16, 17, 18, 19, 20, 21, 22, 23, 24, 25, 26, 27, 28, 29, 30, 31, 32] rfl rfl rfl rfl (by decide) rfl hl.1 rfl (Nat.le_of_ble_eq_true rfl) ⟨Nat.le_of_ble_eq_true rfl, Nat.le_of_ble_eq_true rfl⟩ dL_law_12 (fun u2 H locs hS => ?_)
  refine lv_astore_n (lv' := [(2, .ref q1), (1, .ref q0), (0, .ref b)]) hx hb dL_law_15 rfl hl (by decide) rfl (fun ls hl => ?_)
  refine lv_iconst (v := (nI 1)) hx hb dL_law_16 (by decide) ?_
  refine r_newJ hx hb (hts' (.arrayClass .long) mw_6) hK hS hA (n := 1) (by omega) (Nat.le_of_ble_eq_true rfl) (Nat.le_of_ble_eq_true rfl) dL_law_17 (fun out H hS => ?_)
  refine lv_astore_n (lv' := [(3, .ref out), (2, .ref q1), (1, .ref q0), (0, .ref b)]) hx hb dL_law_19 rfl hl (by decide) rfl (fun ls hl => ?_)
  refine lv_iconst (v := (nI 0)) hx hb dL_law_20 (by decide) ?_
  refine lv_istore (lv' := [(4, .int (nI 0)), (3, .ref out), (2, .ref q1), (1, .ref q0), (0, .ref b)]) hx hb dL_law_21 hl (by decide) rfl (fun ls hl => ?_)
  have hS9 : HS D (fun q : Nat => s.heap.size ≤ q) s.heap (WL cI cJ out (fun _ => 0) (adr q0 u) (u 32) (u 33) P' rul0 rul0 T' zJ zI zI zI zJ D' zI (adr q1 u2) I2 L3) H locs := hS.sub [49, 0, 1, 2, 3, 4, 5, 6, 7, 8, 9, 10, 11, 12, 13, 14, 15, 16, 17, 18, 19, 20, 21, 22, 23, 24, 25, 26, 27, 28, 29, 30, 31, 32, 33, 34, 35, 36, 37, 38, 39, 40, 41, 42, 43, 44, 45, 46, 47, 48] rfl rfl
  refine law_loop X (a := adr q0 u) (m := adr q1 u2) (out := out) (c0 := 53) (s0 := 11744) (by omega) (by omega) (fun H locs ls cells slots hc hs hq => ?_) 513 0 A0 H locs ls (by omega) ⟨_, _, _, _, _, _, _, _, _, _, _, _, _, _, _, _, A0_ok, hC, hM, hS9⟩ hl
  refine va_forget hq ?_
  refine W.widen (k := 601024) (n := 7293033) hc hs ?_
  refine lv_iconst (v := 1) hx hb dL_law_1021 (by decide) ?_
  exact lw_ret hx hb hr hlocks dL_law_1022
