/-! ===== the law's callers of methods that throw ===== -/
def hcode (k : Nat) : Int32 := if k = 0 then nI 0 else if k = 2 then nI 2 else nI 1
theorem TBL_SW {own : String} {idx : Nat} {y : MethodName} {by_ : ByteArray} {n : Nat} {ret : Option FieldType} {hh : List (Nat × Nat × Nat × Nat)} (h1 : Cond.methodLink own idx y ∈ TBL) (h2 : Cond.static y ∈ TBL) (h3 : Cond.initialized y.cls ∈ TBL) (h5 : Cond.codeWith y by_ n ret hh ∈ TBL) : GoodIn TBL (va_wsS own idx y (Cond.codeWith y by_ n ret hh :: TBL)) := by
  have h9 : ∀ w ∈ va_wsS own idx y (Cond.codeWith y by_ n ret hh :: TBL), w ∈ TBL := by
    intro w h
    unfold va_wsS at h
    simp only [List.mem_append, List.mem_cons, List.not_mem_nil, or_false] at h
    rcases h with (rfl | rfl | rfl) | rfl | h <;> assumption
  exact fun w h => ⟨h9 w h, good_of_word (TBL_good w (h9 w h))⟩
section
variable {p : Program} {l : Launch} {e : Env} {R : Room} {s : State} {m : MethodId} {args : Array Value} {below : List Frame} {meth : Method} {c : Code} {H H0 : Heap} {locs : List Loc} {cells slots : Nat} {Q : State → Prop} {cc : ByteArray} {pc : Nat} {ls : Array Slot} {rest : List Value} {D : va_G} {A : Nat → Prop} {ws wc wr wx : va_W} {tys : List (ClassId × FieldType)} {Ts wy : List Cond} {own : String} {nL n maxL index : Nat} {y : MethodName} {rm : Room} {bytes : ByteArray} {ret : Option FieldType} {As st0 : List Value} {b : Addr}
theorem CtWX.blind {sz : Nat} {As : List Value} {w0 : va_W} : FrameBlind (va_Pc As (CtWX sz D tys w0)) := fun a U g mk q => by
  obtain ⟨q0, ⟨q1, qP, qK, qD⟩, qE, qZ⟩ := q
  exact ⟨q0, ⟨q1, qP, ⟨va_K.moved (u := U) (U := U.calling g mk a) (Vm.Alike.refl U.vm) qK.1, NW.same (u := U) (U := U.calling g mk a) rfl qK.2⟩, qD⟩, EXW.same (u := U) (U := U.calling g mk a) rfl qE, EXZ.moved (u := U) (U := U.calling g mk a) (Vm.Alike.refl U.vm) qZ⟩
theorem CtWX.pre {As : List Value} {wc : va_W} (hKN : KN D tys s) (hE : EXW s) (hZ : EXZ A s H0) (hS : HS D A H0 ws H locs) (hA : ∀ q : Nat, H0.size ≤ q → A q) (isC : List Nat) (hnC : va_nd isC = true) (hC : isC.map (fun i => ws[i]?) = wc.map some) : ∀ U : State, U.heap = H → s.WarmedH U.vm → va_Pc As (CtWX H.size D tys wc) As.toArray U := by
  intro U hU hW
  refine ⟨rfl, (CtW.pre (As := As) hKN hS isC hnC hC U hU hW).2, hE.warm hW, ?_⟩
  rw [hU]
  exact ((hZ.kept hS.2.2.2.1).narrow (va_free hS.2.1 hS.2.2 hA isC hC)).moved hW.alike
section
variable {w1 : va_W}
theorem kX_i {C : String} {rv : Int32} {th : Nat} (S : CallFix p m c cc nL s args Ts own) (hKN : KN D tys s) (hE : EXW s) (hZ : EXZ A s H0) (hM : CtXI l D tys y wy rm (.ref b :: As) wc w1 wx th rv) (cw : CallW R s args own C index y bytes maxL ret wy rm 1 6 n) (hS : HS D A H0 ws H locs) (hA : ∀ q : Nat, H0.size ≤ q → A q) (isC isR : List Nat) (hnC : va_nd isC = true) (hC : isC.map (fun i => ws[i]?) = wc.map some) (hR : isR.map (fun i => ws[i]?) = wr.map some) (hnR : va_nd isR = true) (hdis : ∀ i ∈ isR, i ∉ isC) {ci : Nat} {fs : List Value} {T : u_T} {N : Nat} (hre : wc[0]? = some (b, .inr (ci, fs))) (hci : vwCl[ci]? = some (C, T, N)) (hln : As.length = n) (hsz : ls.size = nL) (hst : st0 = As.reverse ++ .ref b :: rest) (hcat : (rest.map fun v => v.category).sum ≤ 8) (hf : cells + 1 ≤ R.cells ∧ slots + 6 ≤ R.slots) (hdg : decode cc pc = .ok (.invokevirtual index, 3))
    (kx : ∀ (H1 : Heap) (locs1 : List Loc) (q9 : Addr) (ce : Cell), (th = 1 ∨ th = 2 ∨ th = 3) → HS D A H0 (wr ++ wx) H1 locs1 → H1[q9]? = some ce → ce.vm = .none → s.vm.findClass (exNm th) = some ce.cls → vx_W p l e R s m args below meth c H1 locs1 (cells + 1) (slots + 6) Q (F0 m pc ls rest) q9)
    (kk : ∀ (H1 : Heap) (locs1 : List Loc), th = 0 → HS D A H0 (wr ++ w1) H1 locs1 → W p l e R s m args below meth c H1 locs1 (cells + 1) (slots + 6) Q (F0 m (pc + 3) ls (.int rv :: rest))) : W p l e R s m args below meth c H locs cells slots Q (F0 m pc ls st0) := by
  have hre' := (hS.sub isC hnC hC).1
  refine vx_calli (vx_runV (As := As) (rest := rest) S (hM H.size) cw ⟨CtWX.blind, va_recv hKN.1 hre' hci hre, CtWX.pre hKN hE hZ hS hA isC hnC hC⟩ rfl hln hsz hst (lv_room hcat) hdg hf) hS.2.2 (fun q _ h => va_free hS.2.1 hS.2.2 hA isC hC q h) (va_free hS.2.1 hS.2.2 hA isC hC) (fun q _ h => va_free hS.2.1 hS.2.2 hA isC hC q h) (fun E ce q9 u t H1 locs1 ht hvm _ hB hz1 hk1 hS1 hce hcv hcl => ?_) (fun r u t H1 locs1 ht hvm hw hB hz1 hk1 hS1 => ?_)
  · obtain ⟨h1, h2, h3⟩ := hB
    subst h2
    exact kx H1 locs1 q9 ce h1 (hs_join hS isC isR hC hR hnR hdis hA hk1 ht h3 hS1) hce hcv hcl
  · obtain ⟨h0, h2⟩ := hw
    subst h2
    exact kk H1 locs1 h0 (hs_join hS isC isR hC hR hnR hdis hA hk1 ht hB hS1)
theorem kX_v {C : String} {th : Nat} (S : CallFix p m c cc nL s args Ts own) (hKN : KN D tys s) (hE : EXW s) (hZ : EXZ A s H0) (hM : CtXV l D tys y wy rm (.ref b :: As) wc w1 wx th) (cw : CallW R s args own C index y bytes maxL ret wy rm 1 6 n) (hS : HS D A H0 ws H locs) (hA : ∀ q : Nat, H0.size ≤ q → A q) (isC isR : List Nat) (hnC : va_nd isC = true) (hC : isC.map (fun i => ws[i]?) = wc.map some) (hR : isR.map (fun i => ws[i]?) = wr.map some) (hnR : va_nd isR = true) (hdis : ∀ i ∈ isR, i ∉ isC) {ci : Nat} {fs : List Value} {T : u_T} {N : Nat} (hre : wc[0]? = some (b, .inr (ci, fs))) (hci : vwCl[ci]? = some (C, T, N)) (hln : As.length = n) (hsz : ls.size = nL) (hst : st0 = As.reverse ++ .ref b :: rest) (hcat : (rest.map fun v => v.category).sum ≤ 8) (hf : cells + 1 ≤ R.cells ∧ slots + 6 ≤ R.slots) (hdg : decode cc pc = .ok (.invokevirtual index, 3))
    (kx : ∀ (H1 : Heap) (locs1 : List Loc) (q9 : Addr) (ce : Cell), (th = 1 ∨ th = 2 ∨ th = 3) → HS D A H0 (wr ++ wx) H1 locs1 → H1[q9]? = some ce → ce.vm = .none → s.vm.findClass (exNm th) = some ce.cls → vx_W p l e R s m args below meth c H1 locs1 (cells + 1) (slots + 6) Q (F0 m pc ls rest) q9)
    (kk : ∀ (H1 : Heap) (locs1 : List Loc), th = 0 → HS D A H0 (wr ++ w1) H1 locs1 → W p l e R s m args below meth c H1 locs1 (cells + 1) (slots + 6) Q (F0 m (pc + 3) ls rest)) : W p l e R s m args below meth c H locs cells slots Q (F0 m pc ls st0) := by
  have hre' := (hS.sub isC hnC hC).1
  refine vx_callv (vx_runV (As := As) (rest := rest) S (hM H.size) cw ⟨CtWX.blind, va_recv hKN.1 hre' hci hre, CtWX.pre hKN hE hZ hS hA isC hnC hC⟩ rfl hln hsz hst (lv_room hcat) hdg hf) hS.2.2 (fun q _ h => va_free hS.2.1 hS.2.2 hA isC hC q h) (va_free hS.2.1 hS.2.2 hA isC hC) (fun q _ h => va_free hS.2.1 hS.2.2 hA isC hC q h) (fun E ce q9 u t H1 locs1 ht hvm _ hB hz1 hk1 hS1 hce hcv hcl => ?_) (fun u t H1 locs1 ht hvm hw hB hz1 hk1 hS1 => ?_)
  · obtain ⟨h1, h2, h3⟩ := hB
    subst h2
    exact kx H1 locs1 q9 ce h1 (hs_join hS isC isR hC hR hnR hdis hA hk1 ht h3 hS1) hce hcv hcl
  · exact kk H1 locs1 hw (hs_join hS isC isR hC hR hnR hdis hA hk1 ht hB hS1)
end
section
variable {w1 : Nat → Nat → va_W}
theorem kX_e {C : String} {rv : Int32} {th : Nat} (S : CallFix p m c cc nL s args Ts own) (hKN : KN D tys s) (hE : EXW s) (hZ : EXZ A s H0) (hM : CtXIe l D tys y wy rm (.ref b :: As) wc w1 wx th rv) (cw : CallW R s args own C index y bytes maxL ret wy rm 1 6 n) (hS : HS D A H0 ws H locs) (hA : ∀ q : Nat, H0.size ≤ q → A q) (isC isR : List Nat) (hnC : va_nd isC = true) (hC : isC.map (fun i => ws[i]?) = wc.map some) (hR : isR.map (fun i => ws[i]?) = wr.map some) (hnR : va_nd isR = true) (hdis : ∀ i ∈ isR, i ∉ isC) {ci : Nat} {fs : List Value} {T : u_T} {N : Nat} (hre : wc[0]? = some (b, .inr (ci, fs))) (hci : vwCl[ci]? = some (C, T, N)) (hln : As.length = n) (hsz : ls.size = nL) (hst : st0 = As.reverse ++ .ref b :: rest) (hcat : (rest.map fun v => v.category).sum ≤ 8) (hf : cells + 1 ≤ R.cells ∧ slots + 6 ≤ R.slots) (hdg : decode cc pc = .ok (.invokevirtual index, 3))
    (kx : ∀ (H1 : Heap) (locs1 : List Loc) (q9 : Addr) (ce : Cell), (th = 1 ∨ th = 2 ∨ th = 3) → HS D A H0 (wr ++ wx) H1 locs1 → H1[q9]? = some ce → ce.vm = .none → s.vm.findClass (exNm th) = some ce.cls → vx_W p l e R s m args below meth c H1 locs1 (cells + 1) (slots + 6) Q (F0 m pc ls rest) q9)
    (kk : ∀ (u u9 : Nat) (H1 : Heap) (locs1 : List Loc), th = 0 → HS D A H0 (wr ++ w1 u u9) H1 locs1 → W p l e R s m args below meth c H1 locs1 (cells + 1) (slots + 6) Q (F0 m (pc + 3) ls (.int rv :: rest))) : W p l e R s m args below meth c H locs cells slots Q (F0 m pc ls st0) := by
  have hre' := (hS.sub isC hnC hC).1
  refine vx_calli (vx_runV (As := As) (rest := rest) S (hM H.size) cw ⟨CtWX.blind, va_recv hKN.1 hre' hci hre, CtWX.pre hKN hE hZ hS hA isC hnC hC⟩ rfl hln hsz hst (lv_room hcat) hdg hf) hS.2.2 (fun q _ h => va_free hS.2.1 hS.2.2 hA isC hC q h) (va_free hS.2.1 hS.2.2 hA isC hC) (fun q _ h => va_free hS.2.1 hS.2.2 hA isC hC q h) (fun E ce q9 u t H1 locs1 ht hvm _ hB hz1 hk1 hS1 hce hcv hcl => ?_) (fun r u t H1 locs1 ht hvm hw hB hz1 hk1 hS1 => ?_)
  · obtain ⟨h1, h2, h3⟩ := hB
    subst h2
    exact kx H1 locs1 q9 ce h1 (hs_join hS isC isR hC hR hnR hdis hA hk1 ht h3 hS1) hce hcv hcl
  · obtain ⟨h0, h2⟩ := hw
    subst h2
    exact kk u.1 u.2 H1 locs1 h0 (hs_join hS isC isR hC hR hnR hdis hA hk1 ht hB hS1)
end
/-- the law's caller of a method: what it returns is the exception's place, 0 for none; then the answer lies in the row out -/
def CtH (l : Launch) (D : va_G) (tys : List (ClassId × FieldType)) (y : MethodName) (wy : List Cond) (rm : Room) (As : List Value) (cJ : ClassId) (out : Nat) (w0 : va_W) (w1 : Nat → Nat → va_W) (wx : va_W) (th : Nat) (rv : Int32) : Prop :=
  ∀ (f : Nat → Int64) (sz : Nat), vx_Met l y wy rm (va_Pc As (CtWX sz D tys ((out, eJ cJ 1 f) :: w0)))
    (va_Qi (fun (r : Int32) (u : (Nat → Int64) × Nat × Nat) => r = hcode th ∧ (th = 0 → u.1 0 = rv.toInt64)) (fun u t => va_P D vwCl ((out, eJ cJ 1 u.1) :: (if th = 0 then w1 u.2.1 u.2.2 else wx)) t.heap ∧ va_D (va_A ((out, eJ cJ 1 f) :: w0) sz) ((out, eJ cJ 1 u.1) :: (if th = 0 then w1 u.2.1 u.2.2 else wx))) (va_A ((out, eJ cJ 1 f) :: w0) sz))
    (vx_X (fun (_ : Unit) => False) (fun _ _ _ => False) (va_A ((out, eJ cJ 1 f) :: w0) sz)) 1 6 (va_A ((out, eJ cJ 1 f) :: w0) sz)
def CtHV (l : Launch) (D : va_G) (tys : List (ClassId × FieldType)) (y : MethodName) (wy : List Cond) (rm : Room) (As : List Value) (w0 w1 wx : va_W) (th : Nat) : Prop :=
  ∀ (sz : Nat), vx_Met l y wy rm (va_Pc As (CtWX sz D tys w0))
    (va_Qi (fun (r : Int32) (_ : Unit) => r = hcode th) (fun _ t => va_P D vwCl (if th = 0 then w1 else wx) t.heap ∧ va_D (va_A w0 sz) (if th = 0 then w1 else wx)) (va_A w0 sz))
    (vx_X (fun (_ : Unit) => False) (fun _ _ _ => False) (va_A w0 sz)) 1 6 (va_A w0 sz)
theorem CtH.of {l : Launch} {D : va_G} {tys : List (ClassId × FieldType)} {y : MethodName} {wy : List Cond} {rm : Room} {As : List Value} {cJ : ClassId} {out : Nat} {w0 wx : va_W} {w1 : Nat → Nat → va_W} {th : Nat} {rv : Int32} {cc : ByteArray} {maxL : Nat} {hh : List (Nat × Nat × Nat × Nat)} (hyc : y.cls = RL) (hy : plainName y.cls = true) (hw : wy = Cond.codeWith y cc maxL (some .int) hh :: TBL) (hlen : (lg_sl As).length ≤ maxL) (hR : rm.cells = 1 ∧ rm.slots = 6)
    (body : ∀ (p : Program) (e : Env) (s : State) (m : MethodId) (args : Array Value) (below : List Frame) (meth : Method) (c : Code) (A : Nat → Prop) (H0 : Heap) (Q : State → Prop) (ls : Array Slot) (f : Nat → Int64), Cx p s m c args cc maxL wy RL D tys A H0 → c.exceptionTable.toList = tableOf hh → EXW s → EXZ A s H0 → HS D A H0 ((out, eJ cJ 1 f) :: w0) H0 [] → lv_has ls maxL (lv_args 0 As) →
      (∀ (H : Heap) (locs : List Loc) (pc : Nat) (ls : Array Slot) (r : Int32) (u : (Nat → Int64) × Nat × Nat), r = hcode th → (th = 0 → u.1 0 = rv.toInt64) → HS D A H0 ((out, eJ cJ 1 u.1) :: (if th = 0 then w1 u.2.1 u.2.2 else wx)) H locs → decode cc pc = .ok (.ireturn, 1) → W p l e rm s m args below meth c H locs 1 6 Q (F0 m pc ls [.int r])) →
      W p l e rm s m args below meth c H0 [] 0 0 Q (F0 m 0 ls [])) : CtH l D tys y wy rm As cJ out w0 w1 wx th rv := by
  intro f sz
  refine vx_ofWH (cc := cc) (maxL := maxL) (ret := some .int) (hh := hh) hy hw ?_
  intro p e s m args below meth c s₁ B hml hv
  obtain ⟨rfl, ⟨hsz, hP, hK, hD0⟩, hE, hZ⟩ := hv
  have hlocks := B.notSynchronized
  subst hsz
  rw [lg_entry_eq]
  have hown := findClass_of_methodNamed B.named
  rw [hyc] at hown
  have hts := atoms_spec (ws := wy) B.pre
  have htab := vx_table (x := y) B (hts (Cond.codeWith y cc maxL (some .int) hh) (by rw [hw]; exact List.mem_cons_self))
  refine body p e s m _ below meth c (va_A ((out, eJ cJ 1 f) :: w0) s.heap.size) s.heap _ _ f ⟨⟨B.exec, B.bytes, hml, hown, hts⟩, hK, fun q h => Or.inr h⟩ htab hE hZ ⟨hP, hD0.self, va_S.rf⟩ (lv_entry As hlen) ?_
  intro H locs pc ls r u hr hc hS hdg
  refine vx_ret ?_
  exact W.iret B.exec B.bytes B.returns (fun t ht hW => ⟨⟨r, u, rfl, ⟨hr, hc⟩, by rw [ht]; exact hS.1, hS.2.1⟩, hS.2.2.F ht⟩) hS.2.2.2.2 hdg
theorem CtHV.of {l : Launch} {D : va_G} {tys : List (ClassId × FieldType)} {y : MethodName} {wy : List Cond} {rm : Room} {As : List Value} {w0 w1 wx : va_W} {th : Nat} {cc : ByteArray} {maxL : Nat} {hh : List (Nat × Nat × Nat × Nat)} (hyc : y.cls = RL) (hy : plainName y.cls = true) (hw : wy = Cond.codeWith y cc maxL (some .int) hh :: TBL) (hlen : (lg_sl As).length ≤ maxL) (hR : rm.cells = 1 ∧ rm.slots = 6)
    (body : ∀ (p : Program) (e : Env) (s : State) (m : MethodId) (args : Array Value) (below : List Frame) (meth : Method) (c : Code) (A : Nat → Prop) (H0 : Heap) (Q : State → Prop) (ls : Array Slot), Cx p s m c args cc maxL wy RL D tys A H0 → c.exceptionTable.toList = tableOf hh → EXW s → EXZ A s H0 → HS D A H0 (w0) H0 [] → lv_has ls maxL (lv_args 0 As) →
      (∀ (H : Heap) (locs : List Loc) (pc : Nat) (ls : Array Slot) (r : Int32), r = hcode th → HS D A H0 ((if th = 0 then w1 else wx)) H locs → decode cc pc = .ok (.ireturn, 1) → W p l e rm s m args below meth c H locs 1 6 Q (F0 m pc ls [.int r])) →
      W p l e rm s m args below meth c H0 [] 0 0 Q (F0 m 0 ls [])) : CtHV l D tys y wy rm As w0 w1 wx th := by
  intro sz
  refine vx_ofWH (cc := cc) (maxL := maxL) (ret := some .int) (hh := hh) hy hw ?_
  intro p e s m args below meth c s₁ B hml hv
  obtain ⟨rfl, ⟨hsz, hP, hK, hD0⟩, hE, hZ⟩ := hv
  have hlocks := B.notSynchronized
  subst hsz
  rw [lg_entry_eq]
  have hown := findClass_of_methodNamed B.named
  rw [hyc] at hown
  have hts := atoms_spec (ws := wy) B.pre
  have htab := vx_table (x := y) B (hts (Cond.codeWith y cc maxL (some .int) hh) (by rw [hw]; exact List.mem_cons_self))
  refine body p e s m _ below meth c (va_A (w0) s.heap.size) s.heap _ _ ⟨⟨B.exec, B.bytes, hml, hown, hts⟩, hK, fun q h => Or.inr h⟩ htab hE hZ ⟨hP, hD0.self, va_S.rf⟩ (lv_entry As hlen) ?_
  intro H locs pc ls r hr hS hdg
  refine vx_ret ?_
  exact W.iret B.exec B.bytes B.returns (fun t ht hW => ⟨⟨r, (), rfl, hr, by rw [ht]; exact hS.1, hS.2.1⟩, hS.2.2.F ht⟩) hS.2.2.2.2 hdg
section
variable {w1 : Nat → Nat → va_W}
theorem kH_i {cJ : ClassId} {out : Nat} {f : Nat → Int64} {rv : Int32} {th : Nat} {hh : List (Nat × Nat × Nat × Nat)} (S : CallFix p m c cc nL s args Ts own) (hKN : KN D tys s) (hE : EXW s) (hZ : EXZ A s H0) (hM : CtH l D tys y wy rm As cJ out wc w1 wx th rv) (cw : vx_CSW R s args own index y bytes maxL ret hh wy rm 1 6 n) (hS : HS D A H0 ws H locs) (hA : ∀ q : Nat, H0.size ≤ q → A q) (isC isR : List Nat) (hnC : va_nd isC = true) (hC : isC.map (fun i => ws[i]?) = ((out, eJ cJ 1 f) :: wc).map some) (hR : isR.map (fun i => ws[i]?) = wr.map some) (hnR : va_nd isR = true) (hdis : ∀ i ∈ isR, i ∉ isC) (hln : As.length = n) (hsz : ls.size = nL) (hst : st0 = As.reverse ++ rest) (hcat : (rest.map fun v => v.category).sum ≤ 8) (hf : cells + 1 ≤ R.cells ∧ slots + 6 ≤ R.slots) (hdg : decode cc pc = .ok (.invokestatic index, 3))
    (kk : ∀ (H1 : Heap) (locs1 : List Loc) (u : (Nat → Int64) × Nat × Nat), (th = 0 → u.1 0 = rv.toInt64) → HS D A H0 (wr ++ ((out, eJ cJ 1 u.1) :: (if th = 0 then w1 u.2.1 u.2.2 else wx))) H1 locs1 → W p l e R s m args below meth c H1 locs1 (cells + 1) (slots + 6) Q (F0 m (pc + 3) ls (.int (hcode th) :: rest))) : W p l e R s m args below meth c H locs cells slots Q (F0 m pc ls st0) := by
  refine vx_calli (vx_runSX (As := As) (rest := rest) S (hM f H.size) cw ⟨CtWX.blind, CtWX.pre hKN hE hZ hS hA isC hnC hC⟩ rfl hln hsz hst (lv_room hcat) hdg hf) hS.2.2 (fun q _ h => va_free hS.2.1 hS.2.2 hA isC hC q h) (va_free hS.2.1 hS.2.2 hA isC hC) (fun q _ h => va_free hS.2.1 hS.2.2 hA isC hC q h) (fun E ce q9 u t H1 locs1 ht hvm hx hB hz1 hk1 hS1 hce hcv hcl => hx.elim) (fun r u t H1 locs1 ht hvm hw hB hz1 hk1 hS1 => ?_)
  obtain ⟨h0, h2⟩ := hw
  subst h0
  exact kk H1 locs1 u h2 (hs_join hS isC isR hC hR hnR hdis hA hk1 ht hB hS1)
end
section
variable {w1 : va_W}
theorem kH_v {th : Nat} {hh : List (Nat × Nat × Nat × Nat)} (S : CallFix p m c cc nL s args Ts own) (hKN : KN D tys s) (hE : EXW s) (hZ : EXZ A s H0) (hM : CtHV l D tys y wy rm As wc w1 wx th) (cw : vx_CSW R s args own index y bytes maxL ret hh wy rm 1 6 n) (hS : HS D A H0 ws H locs) (hA : ∀ q : Nat, H0.size ≤ q → A q) (isC isR : List Nat) (hnC : va_nd isC = true) (hC : isC.map (fun i => ws[i]?) = (wc).map some) (hR : isR.map (fun i => ws[i]?) = wr.map some) (hnR : va_nd isR = true) (hdis : ∀ i ∈ isR, i ∉ isC) (hln : As.length = n) (hsz : ls.size = nL) (hst : st0 = As.reverse ++ rest) (hcat : (rest.map fun v => v.category).sum ≤ 8) (hf : cells + 1 ≤ R.cells ∧ slots + 6 ≤ R.slots) (hdg : decode cc pc = .ok (.invokestatic index, 3))
    (kk : ∀ (H1 : Heap) (locs1 : List Loc), HS D A H0 (wr ++ ((if th = 0 then w1 else wx))) H1 locs1 → W p l e R s m args below meth c H1 locs1 (cells + 1) (slots + 6) Q (F0 m (pc + 3) ls (.int (hcode th) :: rest))) : W p l e R s m args below meth c H locs cells slots Q (F0 m pc ls st0) := by
  refine vx_calli (vx_runSX (As := As) (rest := rest) S (hM H.size) cw ⟨CtWX.blind, CtWX.pre hKN hE hZ hS hA isC hnC hC⟩ rfl hln hsz hst (lv_room hcat) hdg hf) hS.2.2 (fun q _ h => va_free hS.2.1 hS.2.2 hA isC hC q h) (va_free hS.2.1 hS.2.2 hA isC hC) (fun q _ h => va_free hS.2.1 hS.2.2 hA isC hC q h) (fun E ce q9 u t H1 locs1 ht hvm hx hB hz1 hk1 hS1 hce hcv hcl => hx.elim) (fun r u t H1 locs1 ht hvm hw hB hz1 hk1 hS1 => ?_)
  subst hw
  exact kk H1 locs1 (hs_join hS isC isR hC hR hnR hdis hA hk1 ht hB hS1)
end
end
