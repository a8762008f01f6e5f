/-! ===== act: its cases; written by program out of the bytecode ===== -/
set_option maxHeartbeats 4000000 in
set_option maxRecDepth 100000 in
theorem c_low (l : Launch) (D : va_G) (tys : List (ClassId × FieldType)) (v n : Int32) (hn : ¬ n = 0) : CtI l D tys yL_low wtL_low ({ frames := 0, cells := 0, slots := 0, locals := 0 } : Room) [.int v, .int n] [] [] (lowV v n) := by
  refine CtI.of (cc := cL_low) (maxL := 2) (by decide) rfl (Nat.le_of_ble_eq_true rfl) ?_
  intro p e s m args below meth c A H0 Q ls X hS hl kret
  obtain ⟨⟨hx, hb, hml, hown, hts⟩, hK, hA⟩ := X
  have hl : lv_has ls 2 [(0, .int v), (1, .int n)] := hl
  refine lv_iload_n hx hb dL_low_0 rfl (lv_at hl 0 rfl) ?_
  refine lv_ldc (v := 2147483647) hx hb hown (hts (.constant RL 7 (2147483647)) (List.mem_cons_of_mem _ mw_160)) dL_low_1 ?_
  refine lv_iand hx hb dL_low_3 ?_
  refine lv_iload_n hx hb dL_low_4 rfl (lv_at hl 1 rfl) ?_
  refine lv_irem hx hb dL_low_5 hn ?_
  exact kret _ _ _ _ hS dL_low_6
abbrev wtL_act : List Cond := Cond.code yL_act cL_act 7 (some .int) :: TBL
abbrev rmA : Room := { frames := 8, cells := 2, slots := 12, locals := 193 }
/-- from pc0 on act comes to its end, with r, and the object in the state Z2 -/
def ActGo (Z : AS) (v e3 od much other : Int32) (pc0 : Nat) (r : Int32) (Z2 : AS) : Prop :=
  ∀ (p : Program) (l : Launch) (e : Env) (s : State) (m9 : MethodId) (args : Array Value) (below : List Frame) (meth : Method) (c : Code) (D : va_G) (cI cJ : ClassId) (A : Nat → Prop) (H0 : Heap) (Q9 : State → Prop) (a : Nat → Nat) (u : PC) (H : Heap) (locs : List Loc) (ls : Array Slot),
    Cx p s m9 c args cL_act 7 wtL_act RL D [(cI, .int), (cJ, .long)] A H0 → l.stackTraces = false → EXW s → EXZ A s H0 → okU Z u → HS D A H0 (WU cI cJ a u ++ []) H locs → lv_has ls 7 [(5, .int other), (4, .int much), (3, .int od), (2, .int e3), (1, .int v), (0, .ref (a 0))] →
    (∀ (H : Heap) (locs : List Loc) (pc : Nat) (ls : Array Slot) (r2 : Int32) (u : PC), r2 = r → okU Z2 u → HS D A H0 (WU cI cJ a u) H locs → decode cL_act pc = .ok (.ireturn, 1) → W p l e rmA s m9 args below meth c H locs 2 12 Q9 (F0 m9 pc ls [.int r2])) → W p l e rmA s m9 args below meth c H locs 0 0 Q9 (F0 m9 pc0 ls [])
theorem moveAt_ok {Z : AS} {v : Int32} (h : ¬ v < nI 0) : (aMoveAt Z v).1 = 0 := by
  unfold aMoveAt
  rw [if_neg h]
theorem moves_nI {Z : AS} (hA : okA Z) : (aMoves Z).2.1 = nI (mvs Z.2.1 (cur Z.2.2.1)).length ∧ (mvs Z.2.1 (cur Z.2.2.1)).length ≤ 156 := ⟨rfl, mvs_le hA.2.1 hA.wf.1⟩
theorem lowm_ok {Z : AS} (hA : okA Z) (x : Int32) (h : ¬ (aMoves Z).2.1 ≤ 0) : ¬ lowV x (aMoves Z).2.1 < nI 0 := by
  obtain ⟨e, hl⟩ := moves_nI hA
  rw [e] at h ⊢
  have h0 : 0 < (mvs Z.2.1 (cur Z.2.2.1)).length := by
    rcases Nat.eq_zero_or_pos (mvs Z.2.1 (cur Z.2.2.1)).length with z | z
    · rw [z] at h; exact absurd (Int32.le_refl _) h
    · exact z
  obtain ⟨j, hj, ej⟩ := lowV_n x h0 (by omega)
  rw [ej]
  exact nI_pos (by omega)
set_option maxHeartbeats 4000000 in
set_option maxRecDepth 100000 in
theorem act_192_0 {Z : AS} {v e3 od much other : Int32} (h_194 : od = 0) : ActGo Z v e3 od much other 192 (ansA (aDeck Z ((nI 1) + (lowV (v >>> ((nI 9) &&& 31)) (nI 3))) ((nI 1) + (lowV (v >>> ((nI 6) &&& 31)) (nI 5))))) ((aDeck Z ((nI 1) + (lowV (v >>> ((nI 9) &&& 31)) (nI 3))) ((nI 1) + (lowV (v >>> ((nI 6) &&& 31)) (nI 5)))).2.2) := by
  intro p l e s m9 args below meth c D cI cJ A H0 Q9 a u H locs ls X hfl hE hZ9 hu hS hl kret
  have hCF := X.1
  obtain ⟨⟨hx, hb, hml, hown, hts⟩, hK, hA⟩ := X
  refine lv_aload_n hx hb dL_act_192 rfl (lv_at hl 5 rfl) ?_
  refine lv_iload_n hx hb dL_act_193 rfl (lv_at hl 2 rfl) ?_
  refine lv_if_eq (tgt := 202) hx hb dL_act_194 (by decide) (fun _ => ?_) (fun c1 => absurd h_194 c1)
  refine lv_iconst (v := (nI 1)) hx hb dL_act_202 (by decide) ?_
  refine lv_iload_n hx hb dL_act_203 rfl (lv_at hl 4 rfl) ?_
  refine lv_bipush (v := (nI 9)) hx hb dL_act_204 (by decide) ?_
  refine lv_ishr hx hb dL_act_206 ?_
  refine lv_iconst (v := (nI 3)) hx hb dL_act_207 (by decide) ?_
  refine kS0 (As := [.int (v >>> ((nI 9) &&& 31)), .int (nI 3)]) (rest := [.int (nI 1), .ref (a 0)]) hCF hK (c_low l D _ (v >>> ((nI 9) &&& 31)) (nI 3) (by decide)) (va_cwS 2 hts (TBL_S mw_157 mw_158 mw_152 mw_159) rfl rfl rfl pmL_low.2 ⟨Nat.le_of_ble_eq_true rfl, Nat.le_of_ble_eq_true rfl⟩) hS hA rfl hl.1 rfl (Nat.le_of_ble_eq_true rfl) ⟨Nat.le_of_ble_eq_true rfl, Nat.le_of_ble_eq_true rfl⟩ dL_act_208 (fun H locs hS => ?_)
  refine lv_iadd hx hb dL_act_211 ?_
  refine lv_iload_n hx hb dL_act_212 rfl (lv_at hl 2 rfl) ?_
  refine lv_if_eq (tgt := 221) hx hb dL_act_213 (by decide) (fun _ => ?_) (fun c1 => absurd h_194 c1)
  refine lv_iconst (v := (nI 1)) hx hb dL_act_221 (by decide) ?_
  refine lv_iload_n hx hb dL_act_222 rfl (lv_at hl 4 rfl) ?_
  refine lv_bipush (v := (nI 6)) hx hb dL_act_223 (by decide) ?_
  refine lv_ishr hx hb dL_act_225 ?_
  refine lv_iconst (v := (nI 5)) hx hb dL_act_226 (by decide) ?_
  refine kS0 (As := [.int (v >>> ((nI 6) &&& 31)), .int (nI 5)]) (rest := [.int (nI 1), .int ((nI 1) + (lowV (v >>> ((nI 9) &&& 31)) (nI 3))), .ref (a 0)]) hCF hK (c_low l D _ (v >>> ((nI 6) &&& 31)) (nI 5) (by decide)) (va_cwS 2 hts (TBL_S mw_157 mw_158 mw_152 mw_159) rfl rfl rfl pmL_low.2 ⟨Nat.le_of_ble_eq_true rfl, Nat.le_of_ble_eq_true rfl⟩) hS hA rfl hl.1 rfl (Nat.le_of_ble_eq_true rfl) ⟨Nat.le_of_ble_eq_true rfl, Nat.le_of_ble_eq_true rfl⟩ dL_act_227 (fun H locs hS => ?_)
  refine lv_iadd hx hb dL_act_230 ?_
  refine kU (As := [.ref (a 0), .int ((nI 1) + (lowV (v >>> ((nI 9) &&& 31)) (nI 3))), .int ((nI 1) + (lowV (v >>> ((nI 6) &&& 31)) (nI 5)))]) (rest := []) hCF hK hE hZ9 (hA_deck l D cI cJ hfl a hu ((nI 1) + (lowV (v >>> ((nI 9) &&& 31)) (nI 3))) ((nI 1) + (lowV (v >>> ((nI 6) &&& 31)) (nI 5)))) (vx_cwSW 3 hts (TBL_SWc mw_161 mw_162 mw_152 mw_163) rfl rfl rfl pmL_deck.2 ⟨Nat.le_of_ble_eq_true rfl, Nat.le_of_ble_eq_true rfl⟩) hS hA rfl hl.1 rfl (Nat.le_of_ble_eq_true rfl) ⟨Nat.le_of_ble_eq_true rfl, Nat.le_of_ble_eq_true rfl⟩ dL_act_231 (fun H locs u hu hS => ?_)
  refine W.widen (k := 2) (n := 12) (Nat.le_of_ble_eq_true rfl) (Nat.le_of_ble_eq_true rfl) ?_
  rw [List.append_nil] at hS
  exact kret _ _ _ _ _ u rfl hu hS dL_act_234
set_option maxHeartbeats 4000000 in
set_option maxRecDepth 100000 in
theorem act_192_1 {Z : AS} {v e3 od much other : Int32} (h_194 : ¬ (od = 0)) : ActGo Z v e3 od much other 192 (ansA (aDeck Z much other)) ((aDeck Z much other).2.2) := by
  intro p l e s m9 args below meth c D cI cJ A H0 Q9 a u H locs ls X hfl hE hZ9 hu hS hl kret
  have hCF := X.1
  obtain ⟨⟨hx, hb, hml, hown, hts⟩, hK, hA⟩ := X
  refine lv_aload_n hx hb dL_act_192 rfl (lv_at hl 5 rfl) ?_
  refine lv_iload_n hx hb dL_act_193 rfl (lv_at hl 2 rfl) ?_
  refine lv_if_eq (tgt := 202) hx hb dL_act_194 (by decide) (fun c1 => absurd c1 h_194) (fun _ => ?_)
  refine lv_iload hx hb dL_act_197 (lv_at hl 1 rfl) ?_
  refine lv_goto (tgt := 212) hx hb dL_act_199 (by decide) ?_
  refine lv_iload_n hx hb dL_act_212 rfl (lv_at hl 2 rfl) ?_
  refine lv_if_eq (tgt := 221) hx hb dL_act_213 (by decide) (fun c1 => absurd c1 h_194) (fun _ => ?_)
  refine lv_iload hx hb dL_act_216 (lv_at hl 0 rfl) ?_
  refine lv_goto (tgt := 231) hx hb dL_act_218 (by decide) ?_
  refine kU (As := [.ref (a 0), .int much, .int other]) (rest := []) hCF hK hE hZ9 (hA_deck l D cI cJ hfl a hu much other) (vx_cwSW 3 hts (TBL_SWc mw_161 mw_162 mw_152 mw_163) rfl rfl rfl pmL_deck.2 ⟨Nat.le_of_ble_eq_true rfl, Nat.le_of_ble_eq_true rfl⟩) hS hA rfl hl.1 rfl (Nat.le_of_ble_eq_true rfl) ⟨Nat.le_of_ble_eq_true rfl, Nat.le_of_ble_eq_true rfl⟩ dL_act_231 (fun H locs u hu hS => ?_)
  refine W.widen (k := 2) (n := 12) (Nat.le_of_ble_eq_true rfl) (Nat.le_of_ble_eq_true rfl) ?_
  rw [List.append_nil] at hS
  exact kret _ _ _ _ _ u rfl hu hS dL_act_234
theorem actc_192 {Z : AS} (hA : okA Z) (v e3 od much other : Int32) : ∃ (r : Int32) (Z2 : AS), (r = -99999999 → Z2 = Z) ∧ ActGo Z v e3 od much other 192 r Z2 := by
  by_cases h_194 : od = 0
  · exact ⟨_, _, an_deck hA _ _, act_192_0 h_194⟩
  · exact ⟨_, _, an_deck hA _ _, act_192_1 h_194⟩
set_option maxHeartbeats 4000000 in
set_option maxRecDepth 100000 in
theorem act_235_0 {Z : AS} {v e3 od much other : Int32} (h_237 : od = 0) : ActGo Z v e3 od much other 235 (ansA (aTable Z ((nI 1) + (lowV (v >>> ((nI 9) &&& 31)) (nI 5))) (lowV (v >>> ((nI 6) &&& 31)) (nI 3)) (lowV (v >>> ((nI 12) &&& 31)) (nI 3)) (lowV (v >>> ((nI 15) &&& 31)) (nI 3)))) ((aTable Z ((nI 1) + (lowV (v >>> ((nI 9) &&& 31)) (nI 5))) (lowV (v >>> ((nI 6) &&& 31)) (nI 3)) (lowV (v >>> ((nI 12) &&& 31)) (nI 3)) (lowV (v >>> ((nI 15) &&& 31)) (nI 3))).2.2) := by
  intro p l e s m9 args below meth c D cI cJ A H0 Q9 a u H locs ls X hfl hE hZ9 hu hS hl kret
  have hCF := X.1
  obtain ⟨⟨hx, hb, hml, hown, hts⟩, hK, hA⟩ := X
  refine lv_aload_n hx hb dL_act_235 rfl (lv_at hl 5 rfl) ?_
  refine lv_iload_n hx hb dL_act_236 rfl (lv_at hl 2 rfl) ?_
  refine lv_if_eq (tgt := 245) hx hb dL_act_237 (by decide) (fun _ => ?_) (fun c1 => absurd h_237 c1)
  refine lv_iconst (v := (nI 1)) hx hb dL_act_245 (by decide) ?_
  refine lv_iload_n hx hb dL_act_246 rfl (lv_at hl 4 rfl) ?_
  refine lv_bipush (v := (nI 9)) hx hb dL_act_247 (by decide) ?_
  refine lv_ishr hx hb dL_act_249 ?_
  refine lv_iconst (v := (nI 5)) hx hb dL_act_250 (by decide) ?_
  refine kS0 (As := [.int (v >>> ((nI 9) &&& 31)), .int (nI 5)]) (rest := [.int (nI 1), .ref (a 0)]) hCF hK (c_low l D _ (v >>> ((nI 9) &&& 31)) (nI 5) (by decide)) (va_cwS 2 hts (TBL_S mw_157 mw_158 mw_152 mw_159) rfl rfl rfl pmL_low.2 ⟨Nat.le_of_ble_eq_true rfl, Nat.le_of_ble_eq_true rfl⟩) hS hA rfl hl.1 rfl (Nat.le_of_ble_eq_true rfl) ⟨Nat.le_of_ble_eq_true rfl, Nat.le_of_ble_eq_true rfl⟩ dL_act_251 (fun H locs hS => ?_)
  refine lv_iadd hx hb dL_act_254 ?_
  refine lv_iload_n hx hb dL_act_255 rfl (lv_at hl 2 rfl) ?_
  refine lv_if_eq (tgt := 264) hx hb dL_act_256 (by decide) (fun _ => ?_) (fun c1 => absurd h_237 c1)
  refine lv_iload_n hx hb dL_act_264 rfl (lv_at hl 4 rfl) ?_
  refine lv_bipush (v := (nI 6)) hx hb dL_act_265 (by decide) ?_
  refine lv_ishr hx hb dL_act_267 ?_
  refine lv_iconst (v := (nI 3)) hx hb dL_act_268 (by decide) ?_
  refine kS0 (As := [.int (v >>> ((nI 6) &&& 31)), .int (nI 3)]) (rest := [.int ((nI 1) + (lowV (v >>> ((nI 9) &&& 31)) (nI 5))), .ref (a 0)]) hCF hK (c_low l D _ (v >>> ((nI 6) &&& 31)) (nI 3) (by decide)) (va_cwS 2 hts (TBL_S mw_157 mw_158 mw_152 mw_159) rfl rfl rfl pmL_low.2 ⟨Nat.le_of_ble_eq_true rfl, Nat.le_of_ble_eq_true rfl⟩) hS hA rfl hl.1 rfl (Nat.le_of_ble_eq_true rfl) ⟨Nat.le_of_ble_eq_true rfl, Nat.le_of_ble_eq_true rfl⟩ dL_act_269 (fun H locs hS => ?_)
  refine lv_iload_n hx hb dL_act_272 rfl (lv_at hl 2 rfl) ?_
  refine lv_if_eq (tgt := 281) hx hb dL_act_273 (by decide) (fun _ => ?_) (fun c1 => absurd h_237 c1)
  refine lv_iload_n hx hb dL_act_281 rfl (lv_at hl 4 rfl) ?_
  refine lv_bipush (v := (nI 12)) hx hb dL_act_282 (by decide) ?_
  refine lv_ishr hx hb dL_act_284 ?_
  refine lv_iconst (v := (nI 3)) hx hb dL_act_285 (by decide) ?_
  refine kS0 (As := [.int (v >>> ((nI 12) &&& 31)), .int (nI 3)]) (rest := [.int (lowV (v >>> ((nI 6) &&& 31)) (nI 3)), .int ((nI 1) + (lowV (v >>> ((nI 9) &&& 31)) (nI 5))), .ref (a 0)]) hCF hK (c_low l D _ (v >>> ((nI 12) &&& 31)) (nI 3) (by decide)) (va_cwS 2 hts (TBL_S mw_157 mw_158 mw_152 mw_159) rfl rfl rfl pmL_low.2 ⟨Nat.le_of_ble_eq_true rfl, Nat.le_of_ble_eq_true rfl⟩) hS hA rfl hl.1 rfl (Nat.le_of_ble_eq_true rfl) ⟨Nat.le_of_ble_eq_true rfl, Nat.le_of_ble_eq_true rfl⟩ dL_act_286 (fun H locs hS => ?_)
  refine lv_iload_n hx hb dL_act_289 rfl (lv_at hl 4 rfl) ?_
  refine lv_bipush (v := (nI 15)) hx hb dL_act_290 (by decide) ?_
  refine lv_ishr hx hb dL_act_292 ?_
  refine lv_iconst (v := (nI 3)) hx hb dL_act_293 (by decide) ?_
  refine kS0 (As := [.int (v >>> ((nI 15) &&& 31)), .int (nI 3)]) (rest := [.int (lowV (v >>> ((nI 12) &&& 31)) (nI 3)), .int (lowV (v >>> ((nI 6) &&& 31)) (nI 3)), .int ((nI 1) + (lowV (v >>> ((nI 9) &&& 31)) (nI 5))), .ref (a 0)]) hCF hK (c_low l D _ (v >>> ((nI 15) &&& 31)) (nI 3) (by decide)) (va_cwS 2 hts (TBL_S mw_157 mw_158 mw_152 mw_159) rfl rfl rfl pmL_low.2 ⟨Nat.le_of_ble_eq_true rfl, Nat.le_of_ble_eq_true rfl⟩) hS hA rfl hl.1 rfl (Nat.le_of_ble_eq_true rfl) ⟨Nat.le_of_ble_eq_true rfl, Nat.le_of_ble_eq_true rfl⟩ dL_act_294 (fun H locs hS => ?_)
  refine kU (As := [.ref (a 0), .int ((nI 1) + (lowV (v >>> ((nI 9) &&& 31)) (nI 5))), .int (lowV (v >>> ((nI 6) &&& 31)) (nI 3)), .int (lowV (v >>> ((nI 12) &&& 31)) (nI 3)), .int (lowV (v >>> ((nI 15) &&& 31)) (nI 3))]) (rest := []) hCF hK hE hZ9 (hA_table l D cI cJ hfl a hu ((nI 1) + (lowV (v >>> ((nI 9) &&& 31)) (nI 5))) (lowV (v >>> ((nI 6) &&& 31)) (nI 3)) (lowV (v >>> ((nI 12) &&& 31)) (nI 3)) (lowV (v >>> ((nI 15) &&& 31)) (nI 3))) (vx_cwSW 5 hts (TBL_SWc mw_177 mw_178 mw_152 mw_179) rfl rfl rfl pmL_table.2 ⟨Nat.le_of_ble_eq_true rfl, Nat.le_of_ble_eq_true rfl⟩) hS hA rfl hl.1 rfl (Nat.le_of_ble_eq_true rfl) ⟨Nat.le_of_ble_eq_true rfl, Nat.le_of_ble_eq_true rfl⟩ dL_act_297 (fun H locs u hu hS => ?_)
  refine W.widen (k := 2) (n := 12) (Nat.le_of_ble_eq_true rfl) (Nat.le_of_ble_eq_true rfl) ?_
  rw [List.append_nil] at hS
  exact kret _ _ _ _ _ u rfl hu hS dL_act_300
set_option maxHeartbeats 4000000 in
set_option maxRecDepth 100000 in
theorem act_235_1 {Z : AS} {v e3 od much other : Int32} (h_237 : ¬ (od = 0)) : ActGo Z v e3 od much other 235 (ansA (aTable Z much other other (lowV (v >>> ((nI 15) &&& 31)) (nI 3)))) ((aTable Z much other other (lowV (v >>> ((nI 15) &&& 31)) (nI 3))).2.2) := by
  intro p l e s m9 args below meth c D cI cJ A H0 Q9 a u H locs ls X hfl hE hZ9 hu hS hl kret
  have hCF := X.1
  obtain ⟨⟨hx, hb, hml, hown, hts⟩, hK, hA⟩ := X
  refine lv_aload_n hx hb dL_act_235 rfl (lv_at hl 5 rfl) ?_
  refine lv_iload_n hx hb dL_act_236 rfl (lv_at hl 2 rfl) ?_
  refine lv_if_eq (tgt := 245) hx hb dL_act_237 (by decide) (fun c1 => absurd c1 h_237) (fun _ => ?_)
  refine lv_iload hx hb dL_act_240 (lv_at hl 1 rfl) ?_
  refine lv_goto (tgt := 255) hx hb dL_act_242 (by decide) ?_
  refine lv_iload_n hx hb dL_act_255 rfl (lv_at hl 2 rfl) ?_
  refine lv_if_eq (tgt := 264) hx hb dL_act_256 (by decide) (fun c1 => absurd c1 h_237) (fun _ => ?_)
  refine lv_iload hx hb dL_act_259 (lv_at hl 0 rfl) ?_
  refine lv_goto (tgt := 272) hx hb dL_act_261 (by decide) ?_
  refine lv_iload_n hx hb dL_act_272 rfl (lv_at hl 2 rfl) ?_
  refine lv_if_eq (tgt := 281) hx hb dL_act_273 (by decide) (fun c1 => absurd c1 h_237) (fun _ => ?_)
  refine lv_iload hx hb dL_act_276 (lv_at hl 0 rfl) ?_
  refine lv_goto (tgt := 289) hx hb dL_act_278 (by decide) ?_
  refine lv_iload_n hx hb dL_act_289 rfl (lv_at hl 4 rfl) ?_
  refine lv_bipush (v := (nI 15)) hx hb dL_act_290 (by decide) ?_
  refine lv_ishr hx hb dL_act_292 ?_
  refine lv_iconst (v := (nI 3)) hx hb dL_act_293 (by decide) ?_
  refine kS0 (As := [.int (v >>> ((nI 15) &&& 31)), .int (nI 3)]) (rest := [.int other, .int other, .int much, .ref (a 0)]) hCF hK (c_low l D _ (v >>> ((nI 15) &&& 31)) (nI 3) (by decide)) (va_cwS 2 hts (TBL_S mw_157 mw_158 mw_152 mw_159) rfl rfl rfl pmL_low.2 ⟨Nat.le_of_ble_eq_true rfl, Nat.le_of_ble_eq_true rfl⟩) hS hA rfl hl.1 rfl (Nat.le_of_ble_eq_true rfl) ⟨Nat.le_of_ble_eq_true rfl, Nat.le_of_ble_eq_true rfl⟩ dL_act_294 (fun H locs hS => ?_)
  refine kU (As := [.ref (a 0), .int much, .int other, .int other, .int (lowV (v >>> ((nI 15) &&& 31)) (nI 3))]) (rest := []) hCF hK hE hZ9 (hA_table l D cI cJ hfl a hu much other other (lowV (v >>> ((nI 15) &&& 31)) (nI 3))) (vx_cwSW 5 hts (TBL_SWc mw_177 mw_178 mw_152 mw_179) rfl rfl rfl pmL_table.2 ⟨Nat.le_of_ble_eq_true rfl, Nat.le_of_ble_eq_true rfl⟩) hS hA rfl hl.1 rfl (Nat.le_of_ble_eq_true rfl) ⟨Nat.le_of_ble_eq_true rfl, Nat.le_of_ble_eq_true rfl⟩ dL_act_297 (fun H locs u hu hS => ?_)
  refine W.widen (k := 2) (n := 12) (Nat.le_of_ble_eq_true rfl) (Nat.le_of_ble_eq_true rfl) ?_
  rw [List.append_nil] at hS
  exact kret _ _ _ _ _ u rfl hu hS dL_act_300
theorem actc_235 {Z : AS} (hA : okA Z) (v e3 od much other : Int32) : ∃ (r : Int32) (Z2 : AS), (r = -99999999 → Z2 = Z) ∧ ActGo Z v e3 od much other 235 r Z2 := by
  by_cases h_237 : od = 0
  · exact ⟨_, _, an_table _ _ _ _, act_235_0 h_237⟩
  · exact ⟨_, _, an_table _ _ _ _, act_235_1 h_237⟩
set_option maxHeartbeats 4000000 in
set_option maxRecDepth 100000 in
theorem act_301_0 {Z : AS} {v e3 od much other : Int32} (h_303 : od = 0) (h_343 : ((v >>> ((nI 16) &&& 31)) &&& (nI 1)) = (nI 1)) : ActGo Z v e3 od much other 301 (ansA (aStock Z (lowV (v >>> ((nI 9) &&& 31)) (nI 5)) (lowV (v >>> ((nI 6) &&& 31)) (nI 3)) true)) ((aStock Z (lowV (v >>> ((nI 9) &&& 31)) (nI 5)) (lowV (v >>> ((nI 6) &&& 31)) (nI 3)) true).2.2) := by
  intro p l e s m9 args below meth c D cI cJ A H0 Q9 a u H locs ls X hfl hE hZ9 hu hS hl kret
  have hCF := X.1
  obtain ⟨⟨hx, hb, hml, hown, hts⟩, hK, hA⟩ := X
  refine lv_aload_n hx hb dL_act_301 rfl (lv_at hl 5 rfl) ?_
  refine lv_iload_n hx hb dL_act_302 rfl (lv_at hl 2 rfl) ?_
  refine lv_if_eq (tgt := 311) hx hb dL_act_303 (by decide) (fun _ => ?_) (fun c1 => absurd h_303 c1)
  refine lv_iload_n hx hb dL_act_311 rfl (lv_at hl 4 rfl) ?_
  refine lv_bipush (v := (nI 9)) hx hb dL_act_312 (by decide) ?_
  refine lv_ishr hx hb dL_act_314 ?_
  refine lv_iconst (v := (nI 5)) hx hb dL_act_315 (by decide) ?_
  refine kS0 (As := [.int (v >>> ((nI 9) &&& 31)), .int (nI 5)]) (rest := [.ref (a 0)]) hCF hK (c_low l D _ (v >>> ((nI 9) &&& 31)) (nI 5) (by decide)) (va_cwS 2 hts (TBL_S mw_157 mw_158 mw_152 mw_159) rfl rfl rfl pmL_low.2 ⟨Nat.le_of_ble_eq_true rfl, Nat.le_of_ble_eq_true rfl⟩) hS hA rfl hl.1 rfl (Nat.le_of_ble_eq_true rfl) ⟨Nat.le_of_ble_eq_true rfl, Nat.le_of_ble_eq_true rfl⟩ dL_act_316 (fun H locs hS => ?_)
  refine lv_iload_n hx hb dL_act_319 rfl (lv_at hl 2 rfl) ?_
  refine lv_if_eq (tgt := 328) hx hb dL_act_320 (by decide) (fun _ => ?_) (fun c1 => absurd h_303 c1)
  refine lv_iload_n hx hb dL_act_328 rfl (lv_at hl 4 rfl) ?_
  refine lv_bipush (v := (nI 6)) hx hb dL_act_329 (by decide) ?_
  refine lv_ishr hx hb dL_act_331 ?_
  refine lv_iconst (v := (nI 3)) hx hb dL_act_332 (by decide) ?_
  refine kS0 (As := [.int (v >>> ((nI 6) &&& 31)), .int (nI 3)]) (rest := [.int (lowV (v >>> ((nI 9) &&& 31)) (nI 5)), .ref (a 0)]) hCF hK (c_low l D _ (v >>> ((nI 6) &&& 31)) (nI 3) (by decide)) (va_cwS 2 hts (TBL_S mw_157 mw_158 mw_152 mw_159) rfl rfl rfl pmL_low.2 ⟨Nat.le_of_ble_eq_true rfl, Nat.le_of_ble_eq_true rfl⟩) hS hA rfl hl.1 rfl (Nat.le_of_ble_eq_true rfl) ⟨Nat.le_of_ble_eq_true rfl, Nat.le_of_ble_eq_true rfl⟩ dL_act_333 (fun H locs hS => ?_)
  refine lv_iload_n hx hb dL_act_336 rfl (lv_at hl 4 rfl) ?_
  refine lv_bipush (v := (nI 16)) hx hb dL_act_337 (by decide) ?_
  refine lv_ishr hx hb dL_act_339 ?_
  refine lv_iconst (v := (nI 1)) hx hb dL_act_340 (by decide) ?_
  refine lv_iand hx hb dL_act_341 ?_
  refine lv_iconst (v := (nI 1)) hx hb dL_act_342 (by decide) ?_
  refine lv_icmp_ne (tgt := 350) hx hb dL_act_343 (by decide) (fun c1 => absurd h_343 c1) (fun _ => ?_)
  refine lv_iconst (v := (nI 1)) hx hb dL_act_346 (by decide) ?_
  refine lv_goto (tgt := 351) hx hb dL_act_347 (by decide) ?_
  refine kU (As := [.ref (a 0), .int (lowV (v >>> ((nI 9) &&& 31)) (nI 5)), .int (lowV (v >>> ((nI 6) &&& 31)) (nI 3)), .int (bi true)]) (rest := []) hCF hK hE hZ9 (hA_stock l D cI cJ hfl a hu (lowV (v >>> ((nI 9) &&& 31)) (nI 5)) (lowV (v >>> ((nI 6) &&& 31)) (nI 3)) true) (vx_cwSW 4 hts (TBL_SWc mw_188 mw_189 mw_152 mw_190) rfl rfl rfl pmL_stock.2 ⟨Nat.le_of_ble_eq_true rfl, Nat.le_of_ble_eq_true rfl⟩) hS hA rfl hl.1 rfl (Nat.le_of_ble_eq_true rfl) ⟨Nat.le_of_ble_eq_true rfl, Nat.le_of_ble_eq_true rfl⟩ dL_act_351 (fun H locs u hu hS => ?_)
  refine W.widen (k := 2) (n := 12) (Nat.le_of_ble_eq_true rfl) (Nat.le_of_ble_eq_true rfl) ?_
  rw [List.append_nil] at hS
  exact kret _ _ _ _ _ u rfl hu hS dL_act_354
set_option maxHeartbeats 4000000 in
set_option maxRecDepth 100000 in
theorem act_301_1 {Z : AS} {v e3 od much other : Int32} (h_303 : od = 0) (h_343 : ¬ (((v >>> ((nI 16) &&& 31)) &&& (nI 1)) = (nI 1))) : ActGo Z v e3 od much other 301 (ansA (aStock Z (lowV (v >>> ((nI 9) &&& 31)) (nI 5)) (lowV (v >>> ((nI 6) &&& 31)) (nI 3)) false)) ((aStock Z (lowV (v >>> ((nI 9) &&& 31)) (nI 5)) (lowV (v >>> ((nI 6) &&& 31)) (nI 3)) false).2.2) := by
  intro p l e s m9 args below meth c D cI cJ A H0 Q9 a u H locs ls X hfl hE hZ9 hu hS hl kret
  have hCF := X.1
  obtain ⟨⟨hx, hb, hml, hown, hts⟩, hK, hA⟩ := X
  refine lv_aload_n hx hb dL_act_301 rfl (lv_at hl 5 rfl) ?_
  refine lv_iload_n hx hb dL_act_302 rfl (lv_at hl 2 rfl) ?_
  refine lv_if_eq (tgt := 311) hx hb dL_act_303 (by decide) (fun _ => ?_) (fun c1 => absurd h_303 c1)
  refine lv_iload_n hx hb dL_act_311 rfl (lv_at hl 4 rfl) ?_
  refine lv_bipush (v := (nI 9)) hx hb dL_act_312 (by decide) ?_
  refine lv_ishr hx hb dL_act_314 ?_
  refine lv_iconst (v := (nI 5)) hx hb dL_act_315 (by decide) ?_
  refine kS0 (As := [.int (v >>> ((nI 9) &&& 31)), .int (nI 5)]) (rest := [.ref (a 0)]) hCF hK (c_low l D _ (v >>> ((nI 9) &&& 31)) (nI 5) (by decide)) (va_cwS 2 hts (TBL_S mw_157 mw_158 mw_152 mw_159) rfl rfl rfl pmL_low.2 ⟨Nat.le_of_ble_eq_true rfl, Nat.le_of_ble_eq_true rfl⟩) hS hA rfl hl.1 rfl (Nat.le_of_ble_eq_true rfl) ⟨Nat.le_of_ble_eq_true rfl, Nat.le_of_ble_eq_true rfl⟩ dL_act_316 (fun H locs hS => ?_)
  refine lv_iload_n hx hb dL_act_319 rfl (lv_at hl 2 rfl) ?_
  refine lv_if_eq (tgt := 328) hx hb dL_act_320 (by decide) (fun _ => ?_) (fun c1 => absurd h_303 c1)
  refine lv_iload_n hx hb dL_act_328 rfl (lv_at hl 4 rfl) ?_
  refine lv_bipush (v := (nI 6)) hx hb dL_act_329 (by decide) ?_
  refine lv_ishr hx hb dL_act_331 ?_
  refine lv_iconst (v := (nI 3)) hx hb dL_act_332 (by decide) ?_
  refine kS0 (As := [.int (v >>> ((nI 6) &&& 31)), .int (nI 3)]) (rest := [.int (lowV (v >>> ((nI 9) &&& 31)) (nI 5)), .ref (a 0)]) hCF hK (c_low l D _ (v >>> ((nI 6) &&& 31)) (nI 3) (by decide)) (va_cwS 2 hts (TBL_S mw_157 mw_158 mw_152 mw_159) rfl rfl rfl pmL_low.2 ⟨Nat.le_of_ble_eq_true rfl, Nat.le_of_ble_eq_true rfl⟩) hS hA rfl hl.1 rfl (Nat.le_of_ble_eq_true rfl) ⟨Nat.le_of_ble_eq_true rfl, Nat.le_of_ble_eq_true rfl⟩ dL_act_333 (fun H locs hS => ?_)
  refine lv_iload_n hx hb dL_act_336 rfl (lv_at hl 4 rfl) ?_
  refine lv_bipush (v := (nI 16)) hx hb dL_act_337 (by decide) ?_
  refine lv_ishr hx hb dL_act_339 ?_
  refine lv_iconst (v := (nI 1)) hx hb dL_act_340 (by decide) ?_
  refine lv_iand hx hb dL_act_341 ?_
  refine lv_iconst (v := (nI 1)) hx hb dL_act_342 (by decide) ?_
  refine lv_icmp_ne (tgt := 350) hx hb dL_act_343 (by decide) (fun _ => ?_) (fun c1 => absurd c1 h_343)
  refine lv_iconst (v := (nI 0)) hx hb dL_act_350 (by decide) ?_
  refine kU (As := [.ref (a 0), .int (lowV (v >>> ((nI 9) &&& 31)) (nI 5)), .int (lowV (v >>> ((nI 6) &&& 31)) (nI 3)), .int (bi false)]) (rest := []) hCF hK hE hZ9 (hA_stock l D cI cJ hfl a hu (lowV (v >>> ((nI 9) &&& 31)) (nI 5)) (lowV (v >>> ((nI 6) &&& 31)) (nI 3)) false) (vx_cwSW 4 hts (TBL_SWc mw_188 mw_189 mw_152 mw_190) rfl rfl rfl pmL_stock.2 ⟨Nat.le_of_ble_eq_true rfl, Nat.le_of_ble_eq_true rfl⟩) hS hA rfl hl.1 rfl (Nat.le_of_ble_eq_true rfl) ⟨Nat.le_of_ble_eq_true rfl, Nat.le_of_ble_eq_true rfl⟩ dL_act_351 (fun H locs u hu hS => ?_)
  refine W.widen (k := 2) (n := 12) (Nat.le_of_ble_eq_true rfl) (Nat.le_of_ble_eq_true rfl) ?_
  rw [List.append_nil] at hS
  exact kret _ _ _ _ _ u rfl hu hS dL_act_354
set_option maxHeartbeats 4000000 in
set_option maxRecDepth 100000 in
theorem act_301_2 {Z : AS} {v e3 od much other : Int32} (h_303 : ¬ (od = 0)) (h_343 : ((v >>> ((nI 16) &&& 31)) &&& (nI 1)) = (nI 1)) : ActGo Z v e3 od much other 301 (ansA (aStock Z much other true)) ((aStock Z much other true).2.2) := by
  intro p l e s m9 args below meth c D cI cJ A H0 Q9 a u H locs ls X hfl hE hZ9 hu hS hl kret
  have hCF := X.1
  obtain ⟨⟨hx, hb, hml, hown, hts⟩, hK, hA⟩ := X
  refine lv_aload_n hx hb dL_act_301 rfl (lv_at hl 5 rfl) ?_
  refine lv_iload_n hx hb dL_act_302 rfl (lv_at hl 2 rfl) ?_
  refine lv_if_eq (tgt := 311) hx hb dL_act_303 (by decide) (fun c1 => absurd c1 h_303) (fun _ => ?_)
  refine lv_iload hx hb dL_act_306 (lv_at hl 1 rfl) ?_
  refine lv_goto (tgt := 319) hx hb dL_act_308 (by decide) ?_
  refine lv_iload_n hx hb dL_act_319 rfl (lv_at hl 2 rfl) ?_
  refine lv_if_eq (tgt := 328) hx hb dL_act_320 (by decide) (fun c1 => absurd c1 h_303) (fun _ => ?_)
  refine lv_iload hx hb dL_act_323 (lv_at hl 0 rfl) ?_
  refine lv_goto (tgt := 336) hx hb dL_act_325 (by decide) ?_
  refine lv_iload_n hx hb dL_act_336 rfl (lv_at hl 4 rfl) ?_
  refine lv_bipush (v := (nI 16)) hx hb dL_act_337 (by decide) ?_
  refine lv_ishr hx hb dL_act_339 ?_
  refine lv_iconst (v := (nI 1)) hx hb dL_act_340 (by decide) ?_
  refine lv_iand hx hb dL_act_341 ?_
  refine lv_iconst (v := (nI 1)) hx hb dL_act_342 (by decide) ?_
  refine lv_icmp_ne (tgt := 350) hx hb dL_act_343 (by decide) (fun c1 => absurd h_343 c1) (fun _ => ?_)
  refine lv_iconst (v := (nI 1)) hx hb dL_act_346 (by decide) ?_
  refine lv_goto (tgt := 351) hx hb dL_act_347 (by decide) ?_
  refine kU (As := [.ref (a 0), .int much, .int other, .int (bi true)]) (rest := []) hCF hK hE hZ9 (hA_stock l D cI cJ hfl a hu much other true) (vx_cwSW 4 hts (TBL_SWc mw_188 mw_189 mw_152 mw_190) rfl rfl rfl pmL_stock.2 ⟨Nat.le_of_ble_eq_true rfl, Nat.le_of_ble_eq_true rfl⟩) hS hA rfl hl.1 rfl (Nat.le_of_ble_eq_true rfl) ⟨Nat.le_of_ble_eq_true rfl, Nat.le_of_ble_eq_true rfl⟩ dL_act_351 (fun H locs u hu hS => ?_)
  refine W.widen (k := 2) (n := 12) (Nat.le_of_ble_eq_true rfl) (Nat.le_of_ble_eq_true rfl) ?_
  rw [List.append_nil] at hS
  exact kret _ _ _ _ _ u rfl hu hS dL_act_354
set_option maxHeartbeats 4000000 in
set_option maxRecDepth 100000 in
theorem act_301_3 {Z : AS} {v e3 od much other : Int32} (h_303 : ¬ (od = 0)) (h_343 : ¬ (((v >>> ((nI 16) &&& 31)) &&& (nI 1)) = (nI 1))) : ActGo Z v e3 od much other 301 (ansA (aStock Z much other false)) ((aStock Z much other false).2.2) := by
  intro p l e s m9 args below meth c D cI cJ A H0 Q9 a u H locs ls X hfl hE hZ9 hu hS hl kret
  have hCF := X.1
  obtain ⟨⟨hx, hb, hml, hown, hts⟩, hK, hA⟩ := X
  refine lv_aload_n hx hb dL_act_301 rfl (lv_at hl 5 rfl) ?_
  refine lv_iload_n hx hb dL_act_302 rfl (lv_at hl 2 rfl) ?_
  refine lv_if_eq (tgt := 311) hx hb dL_act_303 (by decide) (fun c1 => absurd c1 h_303) (fun _ => ?_)
  refine lv_iload hx hb dL_act_306 (lv_at hl 1 rfl) ?_
  refine lv_goto (tgt := 319) hx hb dL_act_308 (by decide) ?_
  refine lv_iload_n hx hb dL_act_319 rfl (lv_at hl 2 rfl) ?_
  refine lv_if_eq (tgt := 328) hx hb dL_act_320 (by decide) (fun c1 => absurd c1 h_303) (fun _ => ?_)
  refine lv_iload hx hb dL_act_323 (lv_at hl 0 rfl) ?_
  refine lv_goto (tgt := 336) hx hb dL_act_325 (by decide) ?_
  refine lv_iload_n hx hb dL_act_336 rfl (lv_at hl 4 rfl) ?_
  refine lv_bipush (v := (nI 16)) hx hb dL_act_337 (by decide) ?_
  refine lv_ishr hx hb dL_act_339 ?_
  refine lv_iconst (v := (nI 1)) hx hb dL_act_340 (by decide) ?_
  refine lv_iand hx hb dL_act_341 ?_
  refine lv_iconst (v := (nI 1)) hx hb dL_act_342 (by decide) ?_
  refine lv_icmp_ne (tgt := 350) hx hb dL_act_343 (by decide) (fun _ => ?_) (fun c1 => absurd c1 h_343)
  refine lv_iconst (v := (nI 0)) hx hb dL_act_350 (by decide) ?_
  refine kU (As := [.ref (a 0), .int much, .int other, .int (bi false)]) (rest := []) hCF hK hE hZ9 (hA_stock l D cI cJ hfl a hu much other false) (vx_cwSW 4 hts (TBL_SWc mw_188 mw_189 mw_152 mw_190) rfl rfl rfl pmL_stock.2 ⟨Nat.le_of_ble_eq_true rfl, Nat.le_of_ble_eq_true rfl⟩) hS hA rfl hl.1 rfl (Nat.le_of_ble_eq_true rfl) ⟨Nat.le_of_ble_eq_true rfl, Nat.le_of_ble_eq_true rfl⟩ dL_act_351 (fun H locs u hu hS => ?_)
  refine W.widen (k := 2) (n := 12) (Nat.le_of_ble_eq_true rfl) (Nat.le_of_ble_eq_true rfl) ?_
  rw [List.append_nil] at hS
  exact kret _ _ _ _ _ u rfl hu hS dL_act_354
theorem actc_301 {Z : AS} (hA : okA Z) (v e3 od much other : Int32) : ∃ (r : Int32) (Z2 : AS), (r = -99999999 → Z2 = Z) ∧ ActGo Z v e3 od much other 301 r Z2 := by
  by_cases h_303 : od = 0
  · by_cases h_343 : ((v >>> ((nI 16) &&& 31)) &&& (nI 1)) = (nI 1)
    · exact ⟨_, _, an_stock _ _ _, act_301_0 h_303 h_343⟩
    · exact ⟨_, _, an_stock _ _ _, act_301_1 h_303 h_343⟩
  · by_cases h_343 : ((v >>> ((nI 16) &&& 31)) &&& (nI 1)) = (nI 1)
    · exact ⟨_, _, an_stock _ _ _, act_301_2 h_303 h_343⟩
    · exact ⟨_, _, an_stock _ _ _, act_301_3 h_303 h_343⟩
set_option maxHeartbeats 4000000 in
set_option maxRecDepth 100000 in
theorem act_355_0 {Z : AS} {v e3 od much other : Int32} (h_357 : od = 0) : ActGo Z v e3 od much other 355 (ansA (aDeal Z (lowV (v >>> ((nI 6) &&& 31)) (nI 2)) (lowV (v >>> ((nI 9) &&& 31)) (nI 1000)))) ((aDeal Z (lowV (v >>> ((nI 6) &&& 31)) (nI 2)) (lowV (v >>> ((nI 9) &&& 31)) (nI 1000))).2.2) := by
  intro p l e s m9 args below meth c D cI cJ A H0 Q9 a u H locs ls X hfl hE hZ9 hu hS hl kret
  have hCF := X.1
  obtain ⟨⟨hx, hb, hml, hown, hts⟩, hK, hA⟩ := X
  refine lv_aload_n hx hb dL_act_355 rfl (lv_at hl 5 rfl) ?_
  refine lv_iload_n hx hb dL_act_356 rfl (lv_at hl 2 rfl) ?_
  refine lv_if_eq (tgt := 365) hx hb dL_act_357 (by decide) (fun _ => ?_) (fun c1 => absurd h_357 c1)
  refine lv_iload_n hx hb dL_act_365 rfl (lv_at hl 4 rfl) ?_
  refine lv_bipush (v := (nI 6)) hx hb dL_act_366 (by decide) ?_
  refine lv_ishr hx hb dL_act_368 ?_
  refine lv_iconst (v := (nI 2)) hx hb dL_act_369 (by decide) ?_
  refine kS0 (As := [.int (v >>> ((nI 6) &&& 31)), .int (nI 2)]) (rest := [.ref (a 0)]) hCF hK (c_low l D _ (v >>> ((nI 6) &&& 31)) (nI 2) (by decide)) (va_cwS 2 hts (TBL_S mw_157 mw_158 mw_152 mw_159) rfl rfl rfl pmL_low.2 ⟨Nat.le_of_ble_eq_true rfl, Nat.le_of_ble_eq_true rfl⟩) hS hA rfl hl.1 rfl (Nat.le_of_ble_eq_true rfl) ⟨Nat.le_of_ble_eq_true rfl, Nat.le_of_ble_eq_true rfl⟩ dL_act_370 (fun H locs hS => ?_)
  refine lv_iload_n hx hb dL_act_373 rfl (lv_at hl 2 rfl) ?_
  refine lv_if_eq (tgt := 381) hx hb dL_act_374 (by decide) (fun _ => ?_) (fun c1 => absurd h_357 c1)
  refine lv_iload_n hx hb dL_act_381 rfl (lv_at hl 4 rfl) ?_
  refine lv_bipush (v := (nI 9)) hx hb dL_act_382 (by decide) ?_
  refine lv_ishr hx hb dL_act_384 ?_
  refine lv_sipush (v := (nI 1000)) hx hb dL_act_385 (by decide) ?_
  refine kS0 (As := [.int (v >>> ((nI 9) &&& 31)), .int (nI 1000)]) (rest := [.int (lowV (v >>> ((nI 6) &&& 31)) (nI 2)), .ref (a 0)]) hCF hK (c_low l D _ (v >>> ((nI 9) &&& 31)) (nI 1000) (by decide)) (va_cwS 2 hts (TBL_S mw_157 mw_158 mw_152 mw_159) rfl rfl rfl pmL_low.2 ⟨Nat.le_of_ble_eq_true rfl, Nat.le_of_ble_eq_true rfl⟩) hS hA rfl hl.1 rfl (Nat.le_of_ble_eq_true rfl) ⟨Nat.le_of_ble_eq_true rfl, Nat.le_of_ble_eq_true rfl⟩ dL_act_388 (fun H locs hS => ?_)
  refine kU (As := [.ref (a 0), .int (lowV (v >>> ((nI 6) &&& 31)) (nI 2)), .int (lowV (v >>> ((nI 9) &&& 31)) (nI 1000))]) (rest := []) hCF hK hE hZ9 (hA_deal l D cI cJ hfl a hu (lowV (v >>> ((nI 6) &&& 31)) (nI 2)) (lowV (v >>> ((nI 9) &&& 31)) (nI 1000))) (vx_cwSW 3 hts (TBL_SWc mw_197 mw_198 mw_152 mw_199) rfl rfl rfl pmL_deal.2 ⟨Nat.le_of_ble_eq_true rfl, Nat.le_of_ble_eq_true rfl⟩) hS hA rfl hl.1 rfl (Nat.le_of_ble_eq_true rfl) ⟨Nat.le_of_ble_eq_true rfl, Nat.le_of_ble_eq_true rfl⟩ dL_act_391 (fun H locs u hu hS => ?_)
  refine W.widen (k := 2) (n := 12) (Nat.le_of_ble_eq_true rfl) (Nat.le_of_ble_eq_true rfl) ?_
  rw [List.append_nil] at hS
  exact kret _ _ _ _ _ u rfl hu hS dL_act_394
set_option maxHeartbeats 4000000 in
set_option maxRecDepth 100000 in
theorem act_355_1 {Z : AS} {v e3 od much other : Int32} (h_357 : ¬ (od = 0)) : ActGo Z v e3 od much other 355 (ansA (aDeal Z other v)) ((aDeal Z other v).2.2) := by
  intro p l e s m9 args below meth c D cI cJ A H0 Q9 a u H locs ls X hfl hE hZ9 hu hS hl kret
  have hCF := X.1
  obtain ⟨⟨hx, hb, hml, hown, hts⟩, hK, hA⟩ := X
  refine lv_aload_n hx hb dL_act_355 rfl (lv_at hl 5 rfl) ?_
  refine lv_iload_n hx hb dL_act_356 rfl (lv_at hl 2 rfl) ?_
  refine lv_if_eq (tgt := 365) hx hb dL_act_357 (by decide) (fun c1 => absurd c1 h_357) (fun _ => ?_)
  refine lv_iload hx hb dL_act_360 (lv_at hl 0 rfl) ?_
  refine lv_goto (tgt := 373) hx hb dL_act_362 (by decide) ?_
  refine lv_iload_n hx hb dL_act_373 rfl (lv_at hl 2 rfl) ?_
  refine lv_if_eq (tgt := 381) hx hb dL_act_374 (by decide) (fun c1 => absurd c1 h_357) (fun _ => ?_)
  refine lv_iload_n hx hb dL_act_377 rfl (lv_at hl 4 rfl) ?_
  refine lv_goto (tgt := 391) hx hb dL_act_378 (by decide) ?_
  refine kU (As := [.ref (a 0), .int other, .int v]) (rest := []) hCF hK hE hZ9 (hA_deal l D cI cJ hfl a hu other v) (vx_cwSW 3 hts (TBL_SWc mw_197 mw_198 mw_152 mw_199) rfl rfl rfl pmL_deal.2 ⟨Nat.le_of_ble_eq_true rfl, Nat.le_of_ble_eq_true rfl⟩) hS hA rfl hl.1 rfl (Nat.le_of_ble_eq_true rfl) ⟨Nat.le_of_ble_eq_true rfl, Nat.le_of_ble_eq_true rfl⟩ dL_act_391 (fun H locs u hu hS => ?_)
  refine W.widen (k := 2) (n := 12) (Nat.le_of_ble_eq_true rfl) (Nat.le_of_ble_eq_true rfl) ?_
  rw [List.append_nil] at hS
  exact kret _ _ _ _ _ u rfl hu hS dL_act_394
theorem actc_355 {Z : AS} (hA : okA Z) (v e3 od much other : Int32) : ∃ (r : Int32) (Z2 : AS), (r = -99999999 → Z2 = Z) ∧ ActGo Z v e3 od much other 355 r Z2 := by
  by_cases h_357 : od = 0
  · exact ⟨_, _, an_deal hA _ _, act_355_0 h_357⟩
  · exact ⟨_, _, an_deal hA _ _, act_355_1 h_357⟩
set_option maxHeartbeats 4000000 in
set_option maxRecDepth 100000 in
theorem act_395_0 {Z : AS} {v e3 od much other : Int32} (h_399 : (e3 - e3 / (nI 9) * (nI 9)) = 0) (h_404 : od = 0) : ActGo Z v e3 od much other 395 (ansA (aNumberOf Z (lowV (v >>> ((nI 6) &&& 31)) (nI 2)))) Z := by
  intro p l e s m9 args below meth c D cI cJ A H0 Q9 a u H locs ls X hfl hE hZ9 hu hS hl kret
  have hCF := X.1
  obtain ⟨⟨hx, hb, hml, hown, hts⟩, hK, hA⟩ := X
  refine lv_iload_n hx hb dL_act_395 rfl (lv_at hl 3 rfl) ?_
  refine lv_bipush (v := (nI 9)) hx hb dL_act_396 (by decide) ?_
  refine lv_irem hx hb dL_act_398 (by decide) ?_
  refine lv_if_ne (tgt := 426) hx hb dL_act_399 (by decide) (fun c1 => absurd h_399 c1) (fun _ => ?_)
  refine lv_aload_n hx hb dL_act_402 rfl (lv_at hl 5 rfl) ?_
  refine lv_iload_n hx hb dL_act_403 rfl (lv_at hl 2 rfl) ?_
  refine lv_if_eq (tgt := 412) hx hb dL_act_404 (by decide) (fun _ => ?_) (fun c1 => absurd h_404 c1)
  refine lv_iload_n hx hb dL_act_412 rfl (lv_at hl 4 rfl) ?_
  refine lv_bipush (v := (nI 6)) hx hb dL_act_413 (by decide) ?_
  refine lv_ishr hx hb dL_act_415 ?_
  refine lv_iconst (v := (nI 2)) hx hb dL_act_416 (by decide) ?_
  refine kS0 (As := [.int (v >>> ((nI 6) &&& 31)), .int (nI 2)]) (rest := [.ref (a 0)]) hCF hK (c_low l D _ (v >>> ((nI 6) &&& 31)) (nI 2) (by decide)) (va_cwS 2 hts (TBL_S mw_157 mw_158 mw_152 mw_159) rfl rfl rfl pmL_low.2 ⟨Nat.le_of_ble_eq_true rfl, Nat.le_of_ble_eq_true rfl⟩) hS hA rfl hl.1 rfl (Nat.le_of_ble_eq_true rfl) ⟨Nat.le_of_ble_eq_true rfl, Nat.le_of_ble_eq_true rfl⟩ dL_act_417 (fun H locs hS => ?_)
  refine kU (As := [.ref (a 0), .int (lowV (v >>> ((nI 6) &&& 31)) (nI 2))]) (rest := []) hCF hK hE hZ9 (hA_numberOf l D cI cJ hfl a hu (lowV (v >>> ((nI 6) &&& 31)) (nI 2))) (vx_cwSW 2 hts (TBL_SWc mw_222 mw_223 mw_152 mw_224) rfl rfl rfl pmL_numberOf.2 ⟨Nat.le_of_ble_eq_true rfl, Nat.le_of_ble_eq_true rfl⟩) hS hA rfl hl.1 rfl (Nat.le_of_ble_eq_true rfl) ⟨Nat.le_of_ble_eq_true rfl, Nat.le_of_ble_eq_true rfl⟩ dL_act_420 (fun H locs u hu hS => ?_)
  refine lv_goto (tgt := 430) hx hb dL_act_423 (by decide) ?_
  refine W.widen (k := 2) (n := 12) (Nat.le_of_ble_eq_true rfl) (Nat.le_of_ble_eq_true rfl) ?_
  rw [List.append_nil] at hS
  exact kret _ _ _ _ _ u rfl hu hS dL_act_430
set_option maxHeartbeats 4000000 in
set_option maxRecDepth 100000 in
theorem act_395_1 {Z : AS} {v e3 od much other : Int32} (h_399 : (e3 - e3 / (nI 9) * (nI 9)) = 0) (h_404 : ¬ (od = 0)) : ActGo Z v e3 od much other 395 (ansA (aNumberOf Z other)) Z := by
  intro p l e s m9 args below meth c D cI cJ A H0 Q9 a u H locs ls X hfl hE hZ9 hu hS hl kret
  have hCF := X.1
  obtain ⟨⟨hx, hb, hml, hown, hts⟩, hK, hA⟩ := X
  refine lv_iload_n hx hb dL_act_395 rfl (lv_at hl 3 rfl) ?_
  refine lv_bipush (v := (nI 9)) hx hb dL_act_396 (by decide) ?_
  refine lv_irem hx hb dL_act_398 (by decide) ?_
  refine lv_if_ne (tgt := 426) hx hb dL_act_399 (by decide) (fun c1 => absurd h_399 c1) (fun _ => ?_)
  refine lv_aload_n hx hb dL_act_402 rfl (lv_at hl 5 rfl) ?_
  refine lv_iload_n hx hb dL_act_403 rfl (lv_at hl 2 rfl) ?_
  refine lv_if_eq (tgt := 412) hx hb dL_act_404 (by decide) (fun c1 => absurd c1 h_404) (fun _ => ?_)
  refine lv_iload hx hb dL_act_407 (lv_at hl 0 rfl) ?_
  refine lv_goto (tgt := 420) hx hb dL_act_409 (by decide) ?_
  refine kU (As := [.ref (a 0), .int other]) (rest := []) hCF hK hE hZ9 (hA_numberOf l D cI cJ hfl a hu other) (vx_cwSW 2 hts (TBL_SWc mw_222 mw_223 mw_152 mw_224) rfl rfl rfl pmL_numberOf.2 ⟨Nat.le_of_ble_eq_true rfl, Nat.le_of_ble_eq_true rfl⟩) hS hA rfl hl.1 rfl (Nat.le_of_ble_eq_true rfl) ⟨Nat.le_of_ble_eq_true rfl, Nat.le_of_ble_eq_true rfl⟩ dL_act_420 (fun H locs u hu hS => ?_)
  refine lv_goto (tgt := 430) hx hb dL_act_423 (by decide) ?_
  refine W.widen (k := 2) (n := 12) (Nat.le_of_ble_eq_true rfl) (Nat.le_of_ble_eq_true rfl) ?_
  rw [List.append_nil] at hS
  exact kret _ _ _ _ _ u rfl hu hS dL_act_430
set_option maxHeartbeats 4000000 in
set_option maxRecDepth 100000 in
theorem act_395_2 {Z : AS} {v e3 od much other : Int32} (h_399 : ¬ ((e3 - e3 / (nI 9) * (nI 9)) = 0)) : ActGo Z v e3 od much other 395 ((aMoves Z).2.1) Z := by
  intro p l e s m9 args below meth c D cI cJ A H0 Q9 a u H locs ls X hfl hE hZ9 hu hS hl kret
  have hCF := X.1
  obtain ⟨⟨hx, hb, hml, hown, hts⟩, hK, hA⟩ := X
  refine lv_iload_n hx hb dL_act_395 rfl (lv_at hl 3 rfl) ?_
  refine lv_bipush (v := (nI 9)) hx hb dL_act_396 (by decide) ?_
  refine lv_irem hx hb dL_act_398 (by decide) ?_
  refine lv_if_ne (tgt := 426) hx hb dL_act_399 (by decide) (fun _ => ?_) (fun c1 => absurd c1 h_399)
  refine lv_aload_n hx hb dL_act_426 rfl (lv_at hl 5 rfl) ?_
  refine dX_moves hCF hK hA (cwV 0 hts (TBL_V mw_234 mw_235 mw_236 mw_2 mw_237) rfl rfl rfl pmX5_moves ⟨Nat.le_of_ble_eq_true rfl, Nat.le_of_ble_eq_true rfl⟩) hu hS hl.1 (Nat.le_of_ble_eq_true rfl) ⟨Nat.le_of_ble_eq_true rfl, Nat.le_of_ble_eq_true rfl⟩ dL_act_427 (fun H locs u hu hS => ?_)
  refine W.widen (k := 2) (n := 12) (Nat.le_of_ble_eq_true rfl) (Nat.le_of_ble_eq_true rfl) ?_
  rw [List.append_nil] at hS
  exact kret _ _ _ _ _ u rfl hu hS dL_act_430
theorem actc_395 {Z : AS} (hA : okA Z) (v e3 od much other : Int32) : ∃ (r : Int32) (Z2 : AS), (r = -99999999 → Z2 = Z) ∧ ActGo Z v e3 od much other 395 r Z2 := by
  by_cases h_399 : (e3 - e3 / (nI 9) * (nI 9)) = 0
  · by_cases h_404 : od = 0
    · exact ⟨_, _, fun _ => rfl, act_395_0 h_399 h_404⟩
    · exact ⟨_, _, fun _ => rfl, act_395_1 h_399 h_404⟩
  · exact ⟨_, _, fun _ => rfl, act_395_2 h_399⟩
set_option maxHeartbeats 4000000 in
set_option maxRecDepth 100000 in
theorem act_431_0 {Z : AS} {v e3 od much other : Int32} (h_438 : (lowV (v >>> ((nI 4) &&& 31)) (nI 4)) ≤ 0) (h_491 : od = 0) : ActGo Z v e3 od much other 431 (ansA (aMove Z (lowV (v >>> ((nI 6) &&& 31)) (nI 10)) (lowV (v >>> ((nI 9) &&& 31)) (nI 9)) ((nI 1) + (lowV (v >>> ((nI 12) &&& 31)) (nI 3))))) ((aMove Z (lowV (v >>> ((nI 6) &&& 31)) (nI 10)) (lowV (v >>> ((nI 9) &&& 31)) (nI 9)) ((nI 1) + (lowV (v >>> ((nI 12) &&& 31)) (nI 3)))).2.2) := by
  intro p l e s m9 args below meth c D cI cJ A H0 Q9 a u H locs ls X hfl hE hZ9 hu hS hl kret
  have hCF := X.1
  obtain ⟨⟨hx, hb, hml, hown, hts⟩, hK, hA⟩ := X
  refine lv_iload_n hx hb dL_act_431 rfl (lv_at hl 4 rfl) ?_
  refine lv_iconst (v := (nI 4)) hx hb dL_act_432 (by decide) ?_
  refine lv_ishr hx hb dL_act_433 ?_
  refine lv_iconst (v := (nI 4)) hx hb dL_act_434 (by decide) ?_
  refine kS0 (As := [.int (v >>> ((nI 4) &&& 31)), .int (nI 4)]) (rest := []) hCF hK (c_low l D _ (v >>> ((nI 4) &&& 31)) (nI 4) (by decide)) (va_cwS 2 hts (TBL_S mw_157 mw_158 mw_152 mw_159) rfl rfl rfl pmL_low.2 ⟨Nat.le_of_ble_eq_true rfl, Nat.le_of_ble_eq_true rfl⟩) hS hA rfl hl.1 rfl (Nat.le_of_ble_eq_true rfl) ⟨Nat.le_of_ble_eq_true rfl, Nat.le_of_ble_eq_true rfl⟩ dL_act_435 (fun H locs hS => ?_)
  refine lv_if_le (tgt := 489) hx hb dL_act_438 (by decide) (fun _ => ?_) (fun c1 => absurd h_438 c1)
  refine lv_aload_n hx hb dL_act_489 rfl (lv_at hl 5 rfl) ?_
  refine lv_iload_n hx hb dL_act_490 rfl (lv_at hl 2 rfl) ?_
  refine lv_if_eq (tgt := 499) hx hb dL_act_491 (by decide) (fun _ => ?_) (fun c1 => absurd h_491 c1)
  refine lv_iload_n hx hb dL_act_499 rfl (lv_at hl 4 rfl) ?_
  refine lv_bipush (v := (nI 6)) hx hb dL_act_500 (by decide) ?_
  refine lv_ishr hx hb dL_act_502 ?_
  refine lv_bipush (v := (nI 10)) hx hb dL_act_503 (by decide) ?_
  refine kS0 (As := [.int (v >>> ((nI 6) &&& 31)), .int (nI 10)]) (rest := [.ref (a 0)]) hCF hK (c_low l D _ (v >>> ((nI 6) &&& 31)) (nI 10) (by decide)) (va_cwS 2 hts (TBL_S mw_157 mw_158 mw_152 mw_159) rfl rfl rfl pmL_low.2 ⟨Nat.le_of_ble_eq_true rfl, Nat.le_of_ble_eq_true rfl⟩) hS hA rfl hl.1 rfl (Nat.le_of_ble_eq_true rfl) ⟨Nat.le_of_ble_eq_true rfl, Nat.le_of_ble_eq_true rfl⟩ dL_act_505 (fun H locs hS => ?_)
  refine lv_iload_n hx hb dL_act_508 rfl (lv_at hl 2 rfl) ?_
  refine lv_if_eq (tgt := 517) hx hb dL_act_509 (by decide) (fun _ => ?_) (fun c1 => absurd h_491 c1)
  refine lv_iload_n hx hb dL_act_517 rfl (lv_at hl 4 rfl) ?_
  refine lv_bipush (v := (nI 9)) hx hb dL_act_518 (by decide) ?_
  refine lv_ishr hx hb dL_act_520 ?_
  refine lv_bipush (v := (nI 9)) hx hb dL_act_521 (by decide) ?_
  refine kS0 (As := [.int (v >>> ((nI 9) &&& 31)), .int (nI 9)]) (rest := [.int (lowV (v >>> ((nI 6) &&& 31)) (nI 10)), .ref (a 0)]) hCF hK (c_low l D _ (v >>> ((nI 9) &&& 31)) (nI 9) (by decide)) (va_cwS 2 hts (TBL_S mw_157 mw_158 mw_152 mw_159) rfl rfl rfl pmL_low.2 ⟨Nat.le_of_ble_eq_true rfl, Nat.le_of_ble_eq_true rfl⟩) hS hA rfl hl.1 rfl (Nat.le_of_ble_eq_true rfl) ⟨Nat.le_of_ble_eq_true rfl, Nat.le_of_ble_eq_true rfl⟩ dL_act_523 (fun H locs hS => ?_)
  refine lv_iload_n hx hb dL_act_526 rfl (lv_at hl 2 rfl) ?_
  refine lv_if_eq (tgt := 536) hx hb dL_act_527 (by decide) (fun _ => ?_) (fun c1 => absurd h_491 c1)
  refine lv_iconst (v := (nI 1)) hx hb dL_act_536 (by decide) ?_
  refine lv_iload_n hx hb dL_act_537 rfl (lv_at hl 4 rfl) ?_
  refine lv_bipush (v := (nI 12)) hx hb dL_act_538 (by decide) ?_
  refine lv_ishr hx hb dL_act_540 ?_
  refine lv_iconst (v := (nI 3)) hx hb dL_act_541 (by decide) ?_
  refine kS0 (As := [.int (v >>> ((nI 12) &&& 31)), .int (nI 3)]) (rest := [.int (nI 1), .int (lowV (v >>> ((nI 9) &&& 31)) (nI 9)), .int (lowV (v >>> ((nI 6) &&& 31)) (nI 10)), .ref (a 0)]) hCF hK (c_low l D _ (v >>> ((nI 12) &&& 31)) (nI 3) (by decide)) (va_cwS 2 hts (TBL_S mw_157 mw_158 mw_152 mw_159) rfl rfl rfl pmL_low.2 ⟨Nat.le_of_ble_eq_true rfl, Nat.le_of_ble_eq_true rfl⟩) hS hA rfl hl.1 rfl (Nat.le_of_ble_eq_true rfl) ⟨Nat.le_of_ble_eq_true rfl, Nat.le_of_ble_eq_true rfl⟩ dL_act_542 (fun H locs hS => ?_)
  refine lv_iadd hx hb dL_act_545 ?_
  refine kU (As := [.ref (a 0), .int (lowV (v >>> ((nI 6) &&& 31)) (nI 10)), .int (lowV (v >>> ((nI 9) &&& 31)) (nI 9)), .int ((nI 1) + (lowV (v >>> ((nI 12) &&& 31)) (nI 3)))]) (rest := []) hCF hK hE hZ9 (hA_move l D cI cJ hfl a hu (lowV (v >>> ((nI 6) &&& 31)) (nI 10)) (lowV (v >>> ((nI 9) &&& 31)) (nI 9)) ((nI 1) + (lowV (v >>> ((nI 12) &&& 31)) (nI 3)))) (vx_cwSW 4 hts (TBL_SWc mw_315 mw_316 mw_152 mw_317) rfl rfl rfl pmL_move.2 ⟨Nat.le_of_ble_eq_true rfl, Nat.le_of_ble_eq_true rfl⟩) hS hA rfl hl.1 rfl (Nat.le_of_ble_eq_true rfl) ⟨Nat.le_of_ble_eq_true rfl, Nat.le_of_ble_eq_true rfl⟩ dL_act_546 (fun H locs u hu hS => ?_)
  refine W.widen (k := 2) (n := 12) (Nat.le_of_ble_eq_true rfl) (Nat.le_of_ble_eq_true rfl) ?_
  rw [List.append_nil] at hS
  exact kret _ _ _ _ _ u rfl hu hS dL_act_549
set_option maxHeartbeats 4000000 in
set_option maxRecDepth 100000 in
theorem act_431_1 {Z : AS} {v e3 od much other : Int32} (h_438 : (lowV (v >>> ((nI 4) &&& 31)) (nI 4)) ≤ 0) (h_491 : ¬ (od = 0)) : ActGo Z v e3 od much other 431 (ansA (aMove Z other much (v >>> ((nI 3) &&& 31)))) ((aMove Z other much (v >>> ((nI 3) &&& 31))).2.2) := by
  intro p l e s m9 args below meth c D cI cJ A H0 Q9 a u H locs ls X hfl hE hZ9 hu hS hl kret
  have hCF := X.1
  obtain ⟨⟨hx, hb, hml, hown, hts⟩, hK, hA⟩ := X
  refine lv_iload_n hx hb dL_act_431 rfl (lv_at hl 4 rfl) ?_
  refine lv_iconst (v := (nI 4)) hx hb dL_act_432 (by decide) ?_
  refine lv_ishr hx hb dL_act_433 ?_
  refine lv_iconst (v := (nI 4)) hx hb dL_act_434 (by decide) ?_
  refine kS0 (As := [.int (v >>> ((nI 4) &&& 31)), .int (nI 4)]) (rest := []) hCF hK (c_low l D _ (v >>> ((nI 4) &&& 31)) (nI 4) (by decide)) (va_cwS 2 hts (TBL_S mw_157 mw_158 mw_152 mw_159) rfl rfl rfl pmL_low.2 ⟨Nat.le_of_ble_eq_true rfl, Nat.le_of_ble_eq_true rfl⟩) hS hA rfl hl.1 rfl (Nat.le_of_ble_eq_true rfl) ⟨Nat.le_of_ble_eq_true rfl, Nat.le_of_ble_eq_true rfl⟩ dL_act_435 (fun H locs hS => ?_)
  refine lv_if_le (tgt := 489) hx hb dL_act_438 (by decide) (fun _ => ?_) (fun c1 => absurd h_438 c1)
  refine lv_aload_n hx hb dL_act_489 rfl (lv_at hl 5 rfl) ?_
  refine lv_iload_n hx hb dL_act_490 rfl (lv_at hl 2 rfl) ?_
  refine lv_if_eq (tgt := 499) hx hb dL_act_491 (by decide) (fun c1 => absurd c1 h_491) (fun _ => ?_)
  refine lv_iload hx hb dL_act_494 (lv_at hl 0 rfl) ?_
  refine lv_goto (tgt := 508) hx hb dL_act_496 (by decide) ?_
  refine lv_iload_n hx hb dL_act_508 rfl (lv_at hl 2 rfl) ?_
  refine lv_if_eq (tgt := 517) hx hb dL_act_509 (by decide) (fun c1 => absurd c1 h_491) (fun _ => ?_)
  refine lv_iload hx hb dL_act_512 (lv_at hl 1 rfl) ?_
  refine lv_goto (tgt := 526) hx hb dL_act_514 (by decide) ?_
  refine lv_iload_n hx hb dL_act_526 rfl (lv_at hl 2 rfl) ?_
  refine lv_if_eq (tgt := 536) hx hb dL_act_527 (by decide) (fun c1 => absurd c1 h_491) (fun _ => ?_)
  refine lv_iload_n hx hb dL_act_530 rfl (lv_at hl 4 rfl) ?_
  refine lv_iconst (v := (nI 3)) hx hb dL_act_531 (by decide) ?_
  refine lv_ishr hx hb dL_act_532 ?_
  refine lv_goto (tgt := 546) hx hb dL_act_533 (by decide) ?_
  refine kU (As := [.ref (a 0), .int other, .int much, .int (v >>> ((nI 3) &&& 31))]) (rest := []) hCF hK hE hZ9 (hA_move l D cI cJ hfl a hu other much (v >>> ((nI 3) &&& 31))) (vx_cwSW 4 hts (TBL_SWc mw_315 mw_316 mw_152 mw_317) rfl rfl rfl pmL_move.2 ⟨Nat.le_of_ble_eq_true rfl, Nat.le_of_ble_eq_true rfl⟩) hS hA rfl hl.1 rfl (Nat.le_of_ble_eq_true rfl) ⟨Nat.le_of_ble_eq_true rfl, Nat.le_of_ble_eq_true rfl⟩ dL_act_546 (fun H locs u hu hS => ?_)
  refine W.widen (k := 2) (n := 12) (Nat.le_of_ble_eq_true rfl) (Nat.le_of_ble_eq_true rfl) ?_
  rw [List.append_nil] at hS
  exact kret _ _ _ _ _ u rfl hu hS dL_act_549
set_option maxHeartbeats 4000000 in
set_option maxRecDepth 100000 in
theorem act_431_2 {Z : AS} {v e3 od much other : Int32} (h_438 : ¬ ((lowV (v >>> ((nI 4) &&& 31)) (nI 4)) ≤ 0)) (h_445 : (aMoves Z).2.1 ≤ 0) (h_491 : od = 0) : ActGo Z v e3 od much other 431 (ansA (aMove Z (lowV (v >>> ((nI 6) &&& 31)) (nI 10)) (lowV (v >>> ((nI 9) &&& 31)) (nI 9)) ((nI 1) + (lowV (v >>> ((nI 12) &&& 31)) (nI 3))))) ((aMove Z (lowV (v >>> ((nI 6) &&& 31)) (nI 10)) (lowV (v >>> ((nI 9) &&& 31)) (nI 9)) ((nI 1) + (lowV (v >>> ((nI 12) &&& 31)) (nI 3)))).2.2) := by
  intro p l e s m9 args below meth c D cI cJ A H0 Q9 a u H locs ls X hfl hE hZ9 hu hS hl kret
  have hCF := X.1
  obtain ⟨⟨hx, hb, hml, hown, hts⟩, hK, hA⟩ := X
  refine lv_iload_n hx hb dL_act_431 rfl (lv_at hl 4 rfl) ?_
  refine lv_iconst (v := (nI 4)) hx hb dL_act_432 (by decide) ?_
  refine lv_ishr hx hb dL_act_433 ?_
  refine lv_iconst (v := (nI 4)) hx hb dL_act_434 (by decide) ?_
  refine kS0 (As := [.int (v >>> ((nI 4) &&& 31)), .int (nI 4)]) (rest := []) hCF hK (c_low l D _ (v >>> ((nI 4) &&& 31)) (nI 4) (by decide)) (va_cwS 2 hts (TBL_S mw_157 mw_158 mw_152 mw_159) rfl rfl rfl pmL_low.2 ⟨Nat.le_of_ble_eq_true rfl, Nat.le_of_ble_eq_true rfl⟩) hS hA rfl hl.1 rfl (Nat.le_of_ble_eq_true rfl) ⟨Nat.le_of_ble_eq_true rfl, Nat.le_of_ble_eq_true rfl⟩ dL_act_435 (fun H locs hS => ?_)
  refine lv_if_le (tgt := 489) hx hb dL_act_438 (by decide) (fun c1 => absurd c1 h_438) (fun _ => ?_)
  refine lv_aload_n hx hb dL_act_441 rfl (lv_at hl 5 rfl) ?_
  refine dX_moves hCF hK hA (cwV 0 hts (TBL_V mw_234 mw_235 mw_236 mw_2 mw_237) rfl rfl rfl pmX5_moves ⟨Nat.le_of_ble_eq_true rfl, Nat.le_of_ble_eq_true rfl⟩) hu hS hl.1 (Nat.le_of_ble_eq_true rfl) ⟨Nat.le_of_ble_eq_true rfl, Nat.le_of_ble_eq_true rfl⟩ dL_act_442 (fun H locs u hu hS => ?_)
  refine lv_if_le (tgt := 489) hx hb dL_act_445 (by decide) (fun _ => ?_) (fun c1 => absurd h_445 c1)
  refine lv_aload_n hx hb dL_act_489 rfl (lv_at hl 5 rfl) ?_
  refine lv_iload_n hx hb dL_act_490 rfl (lv_at hl 2 rfl) ?_
  refine lv_if_eq (tgt := 499) hx hb dL_act_491 (by decide) (fun _ => ?_) (fun c1 => absurd h_491 c1)
  refine lv_iload_n hx hb dL_act_499 rfl (lv_at hl 4 rfl) ?_
  refine lv_bipush (v := (nI 6)) hx hb dL_act_500 (by decide) ?_
  refine lv_ishr hx hb dL_act_502 ?_
  refine lv_bipush (v := (nI 10)) hx hb dL_act_503 (by decide) ?_
  refine kS0 (As := [.int (v >>> ((nI 6) &&& 31)), .int (nI 10)]) (rest := [.ref (a 0)]) hCF hK (c_low l D _ (v >>> ((nI 6) &&& 31)) (nI 10) (by decide)) (va_cwS 2 hts (TBL_S mw_157 mw_158 mw_152 mw_159) rfl rfl rfl pmL_low.2 ⟨Nat.le_of_ble_eq_true rfl, Nat.le_of_ble_eq_true rfl⟩) hS hA rfl hl.1 rfl (Nat.le_of_ble_eq_true rfl) ⟨Nat.le_of_ble_eq_true rfl, Nat.le_of_ble_eq_true rfl⟩ dL_act_505 (fun H locs hS => ?_)
  refine lv_iload_n hx hb dL_act_508 rfl (lv_at hl 2 rfl) ?_
  refine lv_if_eq (tgt := 517) hx hb dL_act_509 (by decide) (fun _ => ?_) (fun c1 => absurd h_491 c1)
  refine lv_iload_n hx hb dL_act_517 rfl (lv_at hl 4 rfl) ?_
  refine lv_bipush (v := (nI 9)) hx hb dL_act_518 (by decide) ?_
  refine lv_ishr hx hb dL_act_520 ?_
  refine lv_bipush (v := (nI 9)) hx hb dL_act_521 (by decide) ?_
  refine kS0 (As := [.int (v >>> ((nI 9) &&& 31)), .int (nI 9)]) (rest := [.int (lowV (v >>> ((nI 6) &&& 31)) (nI 10)), .ref (a 0)]) hCF hK (c_low l D _ (v >>> ((nI 9) &&& 31)) (nI 9) (by decide)) (va_cwS 2 hts (TBL_S mw_157 mw_158 mw_152 mw_159) rfl rfl rfl pmL_low.2 ⟨Nat.le_of_ble_eq_true rfl, Nat.le_of_ble_eq_true rfl⟩) hS hA rfl hl.1 rfl (Nat.le_of_ble_eq_true rfl) ⟨Nat.le_of_ble_eq_true rfl, Nat.le_of_ble_eq_true rfl⟩ dL_act_523 (fun H locs hS => ?_)
  refine lv_iload_n hx hb dL_act_526 rfl (lv_at hl 2 rfl) ?_
  refine lv_if_eq (tgt := 536) hx hb dL_act_527 (by decide) (fun _ => ?_) (fun c1 => absurd h_491 c1)
  refine lv_iconst (v := (nI 1)) hx hb dL_act_536 (by decide) ?_
  refine lv_iload_n hx hb dL_act_537 rfl (lv_at hl 4 rfl) ?_
  refine lv_bipush (v := (nI 12)) hx hb dL_act_538 (by decide) ?_
  refine lv_ishr hx hb dL_act_540 ?_
  refine lv_iconst (v := (nI 3)) hx hb dL_act_541 (by decide) ?_
  refine kS0 (As := [.int (v >>> ((nI 12) &&& 31)), .int (nI 3)]) (rest := [.int (nI 1), .int (lowV (v >>> ((nI 9) &&& 31)) (nI 9)), .int (lowV (v >>> ((nI 6) &&& 31)) (nI 10)), .ref (a 0)]) hCF hK (c_low l D _ (v >>> ((nI 12) &&& 31)) (nI 3) (by decide)) (va_cwS 2 hts (TBL_S mw_157 mw_158 mw_152 mw_159) rfl rfl rfl pmL_low.2 ⟨Nat.le_of_ble_eq_true rfl, Nat.le_of_ble_eq_true rfl⟩) hS hA rfl hl.1 rfl (Nat.le_of_ble_eq_true rfl) ⟨Nat.le_of_ble_eq_true rfl, Nat.le_of_ble_eq_true rfl⟩ dL_act_542 (fun H locs hS => ?_)
  refine lv_iadd hx hb dL_act_545 ?_
  refine kU (As := [.ref (a 0), .int (lowV (v >>> ((nI 6) &&& 31)) (nI 10)), .int (lowV (v >>> ((nI 9) &&& 31)) (nI 9)), .int ((nI 1) + (lowV (v >>> ((nI 12) &&& 31)) (nI 3)))]) (rest := []) hCF hK hE hZ9 (hA_move l D cI cJ hfl a hu (lowV (v >>> ((nI 6) &&& 31)) (nI 10)) (lowV (v >>> ((nI 9) &&& 31)) (nI 9)) ((nI 1) + (lowV (v >>> ((nI 12) &&& 31)) (nI 3)))) (vx_cwSW 4 hts (TBL_SWc mw_315 mw_316 mw_152 mw_317) rfl rfl rfl pmL_move.2 ⟨Nat.le_of_ble_eq_true rfl, Nat.le_of_ble_eq_true rfl⟩) hS hA rfl hl.1 rfl (Nat.le_of_ble_eq_true rfl) ⟨Nat.le_of_ble_eq_true rfl, Nat.le_of_ble_eq_true rfl⟩ dL_act_546 (fun H locs u hu hS => ?_)
  refine W.widen (k := 2) (n := 12) (Nat.le_of_ble_eq_true rfl) (Nat.le_of_ble_eq_true rfl) ?_
  rw [List.append_nil] at hS
  exact kret _ _ _ _ _ u rfl hu hS dL_act_549
set_option maxHeartbeats 4000000 in
set_option maxRecDepth 100000 in
theorem act_431_3 {Z : AS} {v e3 od much other : Int32} (h_438 : ¬ ((lowV (v >>> ((nI 4) &&& 31)) (nI 4)) ≤ 0)) (h_445 : (aMoves Z).2.1 ≤ 0) (h_491 : ¬ (od = 0)) : ActGo Z v e3 od much other 431 (ansA (aMove Z other much (v >>> ((nI 3) &&& 31)))) ((aMove Z other much (v >>> ((nI 3) &&& 31))).2.2) := by
  intro p l e s m9 args below meth c D cI cJ A H0 Q9 a u H locs ls X hfl hE hZ9 hu hS hl kret
  have hCF := X.1
  obtain ⟨⟨hx, hb, hml, hown, hts⟩, hK, hA⟩ := X
  refine lv_iload_n hx hb dL_act_431 rfl (lv_at hl 4 rfl) ?_
  refine lv_iconst (v := (nI 4)) hx hb dL_act_432 (by decide) ?_
  refine lv_ishr hx hb dL_act_433 ?_
  refine lv_iconst (v := (nI 4)) hx hb dL_act_434 (by decide) ?_
  refine kS0 (As := [.int (v >>> ((nI 4) &&& 31)), .int (nI 4)]) (rest := []) hCF hK (c_low l D _ (v >>> ((nI 4) &&& 31)) (nI 4) (by decide)) (va_cwS 2 hts (TBL_S mw_157 mw_158 mw_152 mw_159) rfl rfl rfl pmL_low.2 ⟨Nat.le_of_ble_eq_true rfl, Nat.le_of_ble_eq_true rfl⟩) hS hA rfl hl.1 rfl (Nat.le_of_ble_eq_true rfl) ⟨Nat.le_of_ble_eq_true rfl, Nat.le_of_ble_eq_true rfl⟩ dL_act_435 (fun H locs hS => ?_)
  refine lv_if_le (tgt := 489) hx hb dL_act_438 (by decide) (fun c1 => absurd c1 h_438) (fun _ => ?_)
  refine lv_aload_n hx hb dL_act_441 rfl (lv_at hl 5 rfl) ?_
  refine dX_moves hCF hK hA (cwV 0 hts (TBL_V mw_234 mw_235 mw_236 mw_2 mw_237) rfl rfl rfl pmX5_moves ⟨Nat.le_of_ble_eq_true rfl, Nat.le_of_ble_eq_true rfl⟩) hu hS hl.1 (Nat.le_of_ble_eq_true rfl) ⟨Nat.le_of_ble_eq_true rfl, Nat.le_of_ble_eq_true rfl⟩ dL_act_442 (fun H locs u hu hS => ?_)
  refine lv_if_le (tgt := 489) hx hb dL_act_445 (by decide) (fun _ => ?_) (fun c1 => absurd h_445 c1)
  refine lv_aload_n hx hb dL_act_489 rfl (lv_at hl 5 rfl) ?_
  refine lv_iload_n hx hb dL_act_490 rfl (lv_at hl 2 rfl) ?_
  refine lv_if_eq (tgt := 499) hx hb dL_act_491 (by decide) (fun c1 => absurd c1 h_491) (fun _ => ?_)
  refine lv_iload hx hb dL_act_494 (lv_at hl 0 rfl) ?_
  refine lv_goto (tgt := 508) hx hb dL_act_496 (by decide) ?_
  refine lv_iload_n hx hb dL_act_508 rfl (lv_at hl 2 rfl) ?_
  refine lv_if_eq (tgt := 517) hx hb dL_act_509 (by decide) (fun c1 => absurd c1 h_491) (fun _ => ?_)
  refine lv_iload hx hb dL_act_512 (lv_at hl 1 rfl) ?_
  refine lv_goto (tgt := 526) hx hb dL_act_514 (by decide) ?_
  refine lv_iload_n hx hb dL_act_526 rfl (lv_at hl 2 rfl) ?_
  refine lv_if_eq (tgt := 536) hx hb dL_act_527 (by decide) (fun c1 => absurd c1 h_491) (fun _ => ?_)
  refine lv_iload_n hx hb dL_act_530 rfl (lv_at hl 4 rfl) ?_
  refine lv_iconst (v := (nI 3)) hx hb dL_act_531 (by decide) ?_
  refine lv_ishr hx hb dL_act_532 ?_
  refine lv_goto (tgt := 546) hx hb dL_act_533 (by decide) ?_
  refine kU (As := [.ref (a 0), .int other, .int much, .int (v >>> ((nI 3) &&& 31))]) (rest := []) hCF hK hE hZ9 (hA_move l D cI cJ hfl a hu other much (v >>> ((nI 3) &&& 31))) (vx_cwSW 4 hts (TBL_SWc mw_315 mw_316 mw_152 mw_317) rfl rfl rfl pmL_move.2 ⟨Nat.le_of_ble_eq_true rfl, Nat.le_of_ble_eq_true rfl⟩) hS hA rfl hl.1 rfl (Nat.le_of_ble_eq_true rfl) ⟨Nat.le_of_ble_eq_true rfl, Nat.le_of_ble_eq_true rfl⟩ dL_act_546 (fun H locs u hu hS => ?_)
  refine W.widen (k := 2) (n := 12) (Nat.le_of_ble_eq_true rfl) (Nat.le_of_ble_eq_true rfl) ?_
  rw [List.append_nil] at hS
  exact kret _ _ _ _ _ u rfl hu hS dL_act_549
set_option maxHeartbeats 4000000 in
set_option maxRecDepth 100000 in
theorem act_431_4 {Z : AS} {v e3 od much other : Int32} (h_438 : ¬ ((lowV (v >>> ((nI 4) &&& 31)) (nI 4)) ≤ 0)) (h_445 : ¬ ((aMoves Z).2.1 ≤ 0)) : ActGo Z v e3 od much other 431 (ansA (aMove Z ((aMoveAt Z (lowV (v >>> ((nI 9) &&& 31)) ((aMoves Z).2.1))).2.1 / (nI 1000)) (((aMoveAt Z (lowV (v >>> ((nI 9) &&& 31)) ((aMoves Z).2.1))).2.1 / (nI 100)) - ((aMoveAt Z (lowV (v >>> ((nI 9) &&& 31)) ((aMoves Z).2.1))).2.1 / (nI 100)) / (nI 10) * (nI 10)) ((aMoveAt Z (lowV (v >>> ((nI 9) &&& 31)) ((aMoves Z).2.1))).2.1 - (aMoveAt Z (lowV (v >>> ((nI 9) &&& 31)) ((aMoves Z).2.1))).2.1 / (nI 100) * (nI 100)))) ((aMove Z ((aMoveAt Z (lowV (v >>> ((nI 9) &&& 31)) ((aMoves Z).2.1))).2.1 / (nI 1000)) (((aMoveAt Z (lowV (v >>> ((nI 9) &&& 31)) ((aMoves Z).2.1))).2.1 / (nI 100)) - ((aMoveAt Z (lowV (v >>> ((nI 9) &&& 31)) ((aMoves Z).2.1))).2.1 / (nI 100)) / (nI 10) * (nI 10)) ((aMoveAt Z (lowV (v >>> ((nI 9) &&& 31)) ((aMoves Z).2.1))).2.1 - (aMoveAt Z (lowV (v >>> ((nI 9) &&& 31)) ((aMoves Z).2.1))).2.1 / (nI 100) * (nI 100))).2.2) := by
  intro p l e s m9 args below meth c D cI cJ A H0 Q9 a u H locs ls X hfl hE hZ9 hu hS hl kret
  have hCF := X.1
  obtain ⟨⟨hx, hb, hml, hown, hts⟩, hK, hA⟩ := X
  refine lv_iload_n hx hb dL_act_431 rfl (lv_at hl 4 rfl) ?_
  refine lv_iconst (v := (nI 4)) hx hb dL_act_432 (by decide) ?_
  refine lv_ishr hx hb dL_act_433 ?_
  refine lv_iconst (v := (nI 4)) hx hb dL_act_434 (by decide) ?_
  refine kS0 (As := [.int (v >>> ((nI 4) &&& 31)), .int (nI 4)]) (rest := []) hCF hK (c_low l D _ (v >>> ((nI 4) &&& 31)) (nI 4) (by decide)) (va_cwS 2 hts (TBL_S mw_157 mw_158 mw_152 mw_159) rfl rfl rfl pmL_low.2 ⟨Nat.le_of_ble_eq_true rfl, Nat.le_of_ble_eq_true rfl⟩) hS hA rfl hl.1 rfl (Nat.le_of_ble_eq_true rfl) ⟨Nat.le_of_ble_eq_true rfl, Nat.le_of_ble_eq_true rfl⟩ dL_act_435 (fun H locs hS => ?_)
  refine lv_if_le (tgt := 489) hx hb dL_act_438 (by decide) (fun c1 => absurd c1 h_438) (fun _ => ?_)
  refine lv_aload_n hx hb dL_act_441 rfl (lv_at hl 5 rfl) ?_
  refine dX_moves hCF hK hA (cwV 0 hts (TBL_V mw_234 mw_235 mw_236 mw_2 mw_237) rfl rfl rfl pmX5_moves ⟨Nat.le_of_ble_eq_true rfl, Nat.le_of_ble_eq_true rfl⟩) hu hS hl.1 (Nat.le_of_ble_eq_true rfl) ⟨Nat.le_of_ble_eq_true rfl, Nat.le_of_ble_eq_true rfl⟩ dL_act_442 (fun H locs u hu hS => ?_)
  refine lv_if_le (tgt := 489) hx hb dL_act_445 (by decide) (fun c1 => absurd c1 h_445) (fun _ => ?_)
  refine lv_aload_n hx hb dL_act_448 rfl (lv_at hl 5 rfl) ?_
  refine lv_iload_n hx hb dL_act_449 rfl (lv_at hl 4 rfl) ?_
  refine lv_bipush (v := (nI 9)) hx hb dL_act_450 (by decide) ?_
  refine lv_ishr hx hb dL_act_452 ?_
  refine lv_aload_n hx hb dL_act_453 rfl (lv_at hl 5 rfl) ?_
  refine dX_moves hCF hK hA (cwV 0 hts (TBL_V mw_234 mw_235 mw_236 mw_2 mw_237) rfl rfl rfl pmX5_moves ⟨Nat.le_of_ble_eq_true rfl, Nat.le_of_ble_eq_true rfl⟩) hu hS hl.1 (Nat.le_of_ble_eq_true rfl) ⟨Nat.le_of_ble_eq_true rfl, Nat.le_of_ble_eq_true rfl⟩ dL_act_454 (fun H locs u hu hS => ?_)
  refine kS0 (As := [.int (v >>> ((nI 9) &&& 31)), .int (aMoves Z).2.1]) (rest := [.ref (a 0)]) hCF hK (c_low l D _ (v >>> ((nI 9) &&& 31)) ((aMoves Z).2.1) (fun z => h_445 (by rw [z]; exact Int32.le_refl _))) (va_cwS 2 hts (TBL_S mw_157 mw_158 mw_152 mw_159) rfl rfl rfl pmL_low.2 ⟨Nat.le_of_ble_eq_true rfl, Nat.le_of_ble_eq_true rfl⟩) hS hA rfl hl.1 rfl (Nat.le_of_ble_eq_true rfl) ⟨Nat.le_of_ble_eq_true rfl, Nat.le_of_ble_eq_true rfl⟩ dL_act_457 (fun H locs hS => ?_)
  refine dX_moveAt hCF hK hA hfl hE hZ9 (lowV (v >>> ((nI 9) &&& 31)) ((aMoves Z).2.1)) (cwV 1 hts (TBL_V mw_305 mw_306 mw_307 mw_2 mw_308) rfl rfl rfl pmX5_moveAt ⟨Nat.le_of_ble_eq_true rfl, Nat.le_of_ble_eq_true rfl⟩) hu hS hl.1 (Nat.le_of_ble_eq_true rfl) ⟨Nat.le_of_ble_eq_true rfl, Nat.le_of_ble_eq_true rfl⟩ dL_act_460 (fun H locs q9 ce u' hth _ _ _ _ _ => absurd hth (by rw [if_pos (moveAt_ok (lowm_ok hu.1 _ h_445))]; omega)) (fun H locs u _ hu hS => ?_)
  refine lv_istore (lv' := [(6, .int (aMoveAt Z (lowV (v >>> ((nI 9) &&& 31)) ((aMoves Z).2.1))).2.1), (5, .int other), (4, .int much), (3, .int od), (2, .int e3), (1, .int v), (0, .ref (a 0))]) hx hb dL_act_463 hl (by decide) rfl (fun ls hl => ?_)
  refine lv_aload_n hx hb dL_act_465 rfl (lv_at hl 6 rfl) ?_
  refine lv_iload hx hb dL_act_466 (lv_at hl 0 rfl) ?_
  refine lv_sipush (v := (nI 1000)) hx hb dL_act_468 (by decide) ?_
  refine lv_idiv hx hb dL_act_471 (by decide) ?_
  refine lv_iload hx hb dL_act_472 (lv_at hl 0 rfl) ?_
  refine lv_bipush (v := (nI 100)) hx hb dL_act_474 (by decide) ?_
  refine lv_idiv hx hb dL_act_476 (by decide) ?_
  refine lv_bipush (v := (nI 10)) hx hb dL_act_477 (by decide) ?_
  refine lv_irem hx hb dL_act_479 (by decide) ?_
  refine lv_iload hx hb dL_act_480 (lv_at hl 0 rfl) ?_
  refine lv_bipush (v := (nI 100)) hx hb dL_act_482 (by decide) ?_
  refine lv_irem hx hb dL_act_484 (by decide) ?_
  refine kU (As := [.ref (a 0), .int ((aMoveAt Z (lowV (v >>> ((nI 9) &&& 31)) ((aMoves Z).2.1))).2.1 / (nI 1000)), .int (((aMoveAt Z (lowV (v >>> ((nI 9) &&& 31)) ((aMoves Z).2.1))).2.1 / (nI 100)) - ((aMoveAt Z (lowV (v >>> ((nI 9) &&& 31)) ((aMoves Z).2.1))).2.1 / (nI 100)) / (nI 10) * (nI 10)), .int ((aMoveAt Z (lowV (v >>> ((nI 9) &&& 31)) ((aMoves Z).2.1))).2.1 - (aMoveAt Z (lowV (v >>> ((nI 9) &&& 31)) ((aMoves Z).2.1))).2.1 / (nI 100) * (nI 100))]) (rest := []) hCF hK hE hZ9 (hA_move l D cI cJ hfl a hu ((aMoveAt Z (lowV (v >>> ((nI 9) &&& 31)) ((aMoves Z).2.1))).2.1 / (nI 1000)) (((aMoveAt Z (lowV (v >>> ((nI 9) &&& 31)) ((aMoves Z).2.1))).2.1 / (nI 100)) - ((aMoveAt Z (lowV (v >>> ((nI 9) &&& 31)) ((aMoves Z).2.1))).2.1 / (nI 100)) / (nI 10) * (nI 10)) ((aMoveAt Z (lowV (v >>> ((nI 9) &&& 31)) ((aMoves Z).2.1))).2.1 - (aMoveAt Z (lowV (v >>> ((nI 9) &&& 31)) ((aMoves Z).2.1))).2.1 / (nI 100) * (nI 100))) (vx_cwSW 4 hts (TBL_SWc mw_315 mw_316 mw_152 mw_317) rfl rfl rfl pmL_move.2 ⟨Nat.le_of_ble_eq_true rfl, Nat.le_of_ble_eq_true rfl⟩) hS hA rfl hl.1 rfl (Nat.le_of_ble_eq_true rfl) ⟨Nat.le_of_ble_eq_true rfl, Nat.le_of_ble_eq_true rfl⟩ dL_act_485 (fun H locs u hu hS => ?_)
  rw [List.append_nil] at hS
  exact kret _ _ _ _ _ u rfl hu hS dL_act_488
theorem actc_431 {Z : AS} (hA : okA Z) (v e3 od much other : Int32) : ∃ (r : Int32) (Z2 : AS), (r = -99999999 → Z2 = Z) ∧ ActGo Z v e3 od much other 431 r Z2 := by
  by_cases h_438 : (lowV (v >>> ((nI 4) &&& 31)) (nI 4)) ≤ 0
  · by_cases h_491 : od = 0
    · exact ⟨_, _, an_move hA _ _ _, act_431_0 h_438 h_491⟩
    · exact ⟨_, _, an_move hA _ _ _, act_431_1 h_438 h_491⟩
  · by_cases h_445 : (aMoves Z).2.1 ≤ 0
    · by_cases h_491 : od = 0
      · exact ⟨_, _, an_move hA _ _ _, act_431_2 h_438 h_445 h_491⟩
      · exact ⟨_, _, an_move hA _ _ _, act_431_3 h_438 h_445 h_491⟩
    · exact ⟨_, _, an_move hA _ _ _, act_431_4 h_438 h_445⟩
