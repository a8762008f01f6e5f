/-! ===== methods that throw: their contracts ===== -/
def exNm : Nat → String
  | 1 => "java/lang/IllegalArgumentException"
  | 2 => "java/lang/IllegalStateException"
  | _ => "java/lang/IndexOutOfBoundsException"
def exIk : Nat → Nat
  | 1 => 70
  | 2 => 153
  | _ => 185
def exIc : Nat → Nat
  | 1 => 74
  | 2 => 157
  | _ => 189
def exSup : List String := ["java/lang/RuntimeException", "java/lang/Exception"]
/-- the words of a throw that are not good ones -/
def exL : List Cond := [.declares (Bundle.initS "java/lang/RuntimeException"), .declares (Bundle.initS "java/lang/Exception"), .declares (Bundle.initS "java/lang/Throwable"), .castable "java/lang/IllegalArgumentException" "java/lang/IllegalArgumentException", .castable "java/lang/IllegalStateException" "java/lang/IllegalStateException", .castable "java/lang/IndexOutOfBoundsException" "java/lang/IndexOutOfBoundsException"]
def txL : List (Nat × String) := [(72, "suits are 1 to 4, ranks 1 to 6"), (80, "a deck has 2 to 16 cards, and more than are stock"), (88, "columns are 1 to 5, cells 0 to 2"), (90, "build is BY_SUIT to BY_RANK, empty ANY_CARD to NO_CARD"), (104, "cards are 0 to 8, again 0 to 2"), (110, "the deck has not more cards"), (120, "a machine is 0 or 1, a number 0 to 1000000"), (132, "a machine is 0 or 1"), (142, "from is 0 to 9, not 8, to 0 to 8, and not the same"), (148, "many is 1 to 16 from column to column, otherwise 1"), (155, "it is no move, or 200 were done"), (164, "many is 1 to 200"), (187, "place is below 0"), (194, "place is 0 to 9, depth not below 0"), (205, "what is 0 to 7"), (222, "bound is 1 to 400"), (239, "a machine is 0 or 1, from 0 to 1000000"), (241, "many is 1 to 8, bound 1 to 200")]
def EXW (U : State) : Prop := (∀ w ∈ exL, va_Nw w U) ∧ (∀ t ∈ txL, ∃ sa, vk_R RX5 t.1 t.2 sa U) ∧ va_Nc "java/lang/IllegalStateException" "java/lang/IllegalArgumentException" U
def EXZ (A : Nat → Prop) (U : State) (H : Heap) : Prop := vx_Zq Bundle.tN "UNASSIGNED_STACK" Bundle.steD A U H ∧ vx_Zq Bundle.tN "SUPPRESSED_SENTINEL" Bundle.listD A U H
theorem exL_face : ∀ w ∈ exL, w.faceAtom = true ∧ w.onTables = true := by decide +kernel
theorem EXW.warm {s U : State} (hW : s.WarmedH U.vm) (h : EXW s) : EXW U := by
  refine ⟨fun w hw => ?_, fun t ht => ?_, h.2.2.moved hW.alike⟩
  · have h1 := Cond.faceAtom_setVm hW.alike w (exL_face w hw).1 (h.1 w hw)
    exact va_tabs (exL_face w hw).2 (u := s.setVm U.vm) rfl h1
  · obtain ⟨sa, h1⟩ := h.2.1 t ht
    exact ⟨sa, h1.warm hW⟩
theorem EXW.same {u U : State} (hv : u.vm = U.vm) (h : EXW u) : EXW U := by
  refine ⟨fun w hw => va_tabs (exL_face w hw).2 hv (h.1 w hw), fun t ht => ?_, h.2.2.moved (by rw [hv]; exact Vm.Alike.refl U.vm)⟩
  obtain ⟨sa, h1⟩ := h.2.1 t ht
  exact ⟨sa, h1.same hv.symm⟩
theorem EXW.word {s : State} (h : EXW s) {w : Cond} (hw : w ∈ exL) (args : Array Value) : w.before args s = true := va_tabs (exL_face w hw).2 rfl (h.1 w hw)
theorem EXZ.moved {A : Nat → Prop} {u U : State} {H : Heap} (hvm : u.vm.Alike U.vm) (h : EXZ A u H) : EXZ A U H := ⟨vx_Zq.moved hvm h.1, vx_Zq.moved hvm h.2⟩
theorem EXZ.kept {A : Nat → Prop} {U : State} {H H1 : Heap} (h : EXZ A U H) (hq : ∀ a : Nat, a < H.size → ¬ A a → H1[a]? = H[a]?) : EXZ A U H1 := ⟨h.1.kept hq, h.2.kept hq⟩
theorem EXZ.narrow {A B : Nat → Prop} {U : State} {H : Heap} (h : EXZ A U H) (hAB : ∀ q, B q → A q) : EXZ B U H := ⟨h.1.narrow hAB, h.2.narrow hAB⟩
def CtWX (sz : Nat) (D : va_G) (tys : List (ClassId × FieldType)) (w0 : va_W) : State → Prop := fun U => CtW sz D tys w0 U ∧ EXW U ∧ EXZ (va_A w0 sz) U U.heap
/-- the method, from the world w0, returns rv and leaves w1 (th = 0), or throws the exception th and leaves wx -/
def CtXI (l : Launch) (D : va_G) (tys : List (ClassId × FieldType)) (y : MethodName) (wy : List Cond) (rm : Room) (As : List Value) (w0 w1 wx : va_W) (th : Nat) (rv : Int32) : Prop :=
  ∀ sz : Nat, vx_Met l y wy rm (va_Pc As (CtWX sz D tys w0)) (va_Qi (fun (r : Int32) (_ : Unit) => th = 0 ∧ r = rv) (fun _ t => va_P D vwCl w1 t.heap ∧ va_D (va_A w0 sz) w1) (va_A w0 sz))
    (vx_X (fun (_ : Unit) => True) (fun E _ t => (th = 1 ∨ th = 2 ∨ th = 3) ∧ E = exNm th ∧ va_P D vwCl wx t.heap ∧ va_D (va_A w0 sz) wx) (va_A w0 sz)) 1 6 (va_A w0 sz)
def CtXV (l : Launch) (D : va_G) (tys : List (ClassId × FieldType)) (y : MethodName) (wy : List Cond) (rm : Room) (As : List Value) (w0 w1 wx : va_W) (th : Nat) : Prop :=
  ∀ sz : Nat, vx_Met l y wy rm (va_Pc As (CtWX sz D tys w0)) (va_Qv (fun (_ : Unit) => th = 0) (fun _ t => va_P D vwCl w1 t.heap ∧ va_D (va_A w0 sz) w1) (va_A w0 sz))
    (vx_X (fun (_ : Unit) => True) (fun E _ t => (th = 1 ∨ th = 2 ∨ th = 3) ∧ E = exNm th ∧ va_P D vwCl wx t.heap ∧ va_D (va_A w0 sz) wx) (va_A w0 sz)) 1 6 (va_A w0 sz)
theorem exF1 : Cond.classLink RX5 (exIk 1) (exNm 1) ∈ TBL ∧ Cond.initialized (exNm 1) ∈ TBL ∧ (∀ w ∈ (vx_atS RX5 (exIc 1) (exNm 1) exSup).filter goodWord, w ∈ TBL) ∧ (∀ w ∈ (vx_atS RX5 (exIc 1) (exNm 1) exSup).filter (fun w => !goodWord w), w ∈ exL) ∧ (∀ w ∈ Cond.classLink RX5 (exIk 1) (exNm 1) :: Cond.initialized (exNm 1) :: vx_atS RX5 (exIc 1) (exNm 1) exSup, vx_ot w = true) ∧ Bundle.fit (exNm 1) = true ∧ Cond.castable (exNm 1) (exNm 1) ∈ exL :=
  ⟨mw_169, mw_170, inF_0, by decide +kernel, by decide +kernel, by decide +kernel, by decide +kernel⟩
theorem exF2 : Cond.classLink RX5 (exIk 2) (exNm 2) ∈ TBL ∧ Cond.initialized (exNm 2) ∈ TBL ∧ (∀ w ∈ (vx_atS RX5 (exIc 2) (exNm 2) exSup).filter goodWord, w ∈ TBL) ∧ (∀ w ∈ (vx_atS RX5 (exIc 2) (exNm 2) exSup).filter (fun w => !goodWord w), w ∈ exL) ∧ (∀ w ∈ Cond.classLink RX5 (exIk 2) (exNm 2) :: Cond.initialized (exNm 2) :: vx_atS RX5 (exIc 2) (exNm 2) exSup, vx_ot w = true) ∧ Bundle.fit (exNm 2) = true ∧ Cond.castable (exNm 2) (exNm 2) ∈ exL :=
  ⟨mw_323, mw_324, inF_1, by decide +kernel, by decide +kernel, by decide +kernel, by decide +kernel⟩
theorem exF3 : Cond.classLink RX5 (exIk 3) (exNm 3) ∈ TBL ∧ Cond.initialized (exNm 3) ∈ TBL ∧ (∀ w ∈ (vx_atS RX5 (exIc 3) (exNm 3) exSup).filter goodWord, w ∈ TBL) ∧ (∀ w ∈ (vx_atS RX5 (exIc 3) (exNm 3) exSup).filter (fun w => !goodWord w), w ∈ exL) ∧ (∀ w ∈ Cond.classLink RX5 (exIk 3) (exNm 3) :: Cond.initialized (exNm 3) :: vx_atS RX5 (exIc 3) (exNm 3) exSup, vx_ot w = true) ∧ Bundle.fit (exNm 3) = true ∧ Cond.castable (exNm 3) (exNm 3) ∈ exL :=
  ⟨mw_309, mw_310, inF_2, by decide +kernel, by decide +kernel, by decide +kernel, by decide +kernel⟩
theorem exF {k : Nat} (hk : k = 1 ∨ k = 2 ∨ k = 3) : Cond.classLink RX5 (exIk k) (exNm k) ∈ TBL ∧ Cond.initialized (exNm k) ∈ TBL ∧ (∀ w ∈ (vx_atS RX5 (exIc k) (exNm k) exSup).filter goodWord, w ∈ TBL) ∧ (∀ w ∈ (vx_atS RX5 (exIc k) (exNm k) exSup).filter (fun w => !goodWord w), w ∈ exL) ∧ (∀ w ∈ Cond.classLink RX5 (exIk k) (exNm k) :: Cond.initialized (exNm k) :: vx_atS RX5 (exIc k) (exNm k) exSup, vx_ot w = true) ∧ Bundle.fit (exNm k) = true ∧ Cond.castable (exNm k) (exNm k) ∈ exL := by
  rcases hk with rfl | rfl | rfl
  · exact exF1
  · exact exF2
  · exact exF3
theorem exSup_fit : ∀ n ∈ exSup, Bundle.fit n = true := by decide +kernel
/-- a throw, in a body -/
theorem ex_throw {p : Program} {l : Launch} {e : Env} {R : Room} {s : State} {m : MethodId} {args : Array Value} {below : List Frame} {meth : Method} {c : Code} {H : Heap} {locs : List Loc} {pc : Nat} {ls : Array Slot} {cc : ByteArray} {wy : List Cond} {D : va_G} {A : Nat → Prop} {Qc : Array Value → State → Outcome → State → Prop} {wx : va_W} {th k is : Nat} {tx : String} {y : MethodName} {ret : Option FieldType} {maxL : Nat}
    (hx : p.tables.exec = Jvm.exec) (hb : c.code = cc) (hfl : l.stackTraces = false) (hml : c.maxLocals = maxL) (hown : s.vm.findClass RX5 = some m.cls) (hts : ∀ w ∈ wy, w.before args s = true) (hw : wy = Cond.code y cc maxL ret :: TBL) (htab : ∀ x ∈ c.exceptionTable.toList, False) (hlocks : meth.locks = false) (hE : EXW s) (hZ : EXZ A s s.heap) (hR : R.cells = 1 ∧ R.slots = 6 ∧ 6 ≤ R.frames ∧ 82 ≤ R.locals)
    (hth : th = k) (hk : k = 1 ∨ k = 2 ∨ k = 3) (htx : (is, tx) ∈ txL) (hS : HS D A s.heap wx H locs) (hsz : ls.size = maxL)
    (d0 : decode cc pc = .ok (.new (exIk k), 3)) (d3 : decode cc (pc + 3) = .ok (.dup, 1)) (d4 : decode cc (pc + 4) = .ok (.ldc is, 2)) (d6 : decode cc (pc + 6) = .ok (.invokespecial (exIc k), 3)) (d9 : decode cc (pc + 9) = .ok (.athrow, 1)) :
    W p l e R s m args below meth c H locs 0 0 (vx_MQ below Qc (vx_X (fun (_ : Unit) => True) (fun E _ t => (th = 1 ∨ th = 2 ∨ th = 3) ∧ E = exNm th ∧ va_P D vwCl wx t.heap ∧ va_D A wx) A) args s 1 6 A) (F0 m pc ls []) := by
  subst hth
  have hT : ∀ w ∈ TBL, w.before args s = true := fun w h => hts w (by rw [hw]; exact List.mem_cons_of_mem _ h)
  obtain ⟨f1, f2, f3, f4, f5, f6, f7⟩ := exF hk
  obtain ⟨sa, hsa⟩ := hE.2.1 _ htx
  exact vx_throwS (own := RX5) (cls := exNm th) (names := exSup) (ik := exIk th) (is := is) (ic := exIc th) (text := tx) (sa := sa) (A := A) hx hb hfl hown f6 exSup_fit (hT _ f1) (hT _ f2) hsa
    (vx_hat (fun w h => hT w (f3 w h)) f4 (fun w h => hE.word h args)) f5 hZ.1 hZ.2 hS.2.2 (hsz.trans hml.symm) d0 d3 d4 d6 d9 (fun x hx => (htab x hx).elim)
    (by rw [show exSup.length = 2 from rfl]; omega) (by rw [show exSup.length = 2 from rfl]; show 0 + (13 * (2 + 1) + 43) ≤ R.locals; omega) (by omega) (by omega) hlocks
    (fun t hal hle hq => ⟨(), trivial, ⟨hk, rfl, hS.1.kept (fun j q hj => hq q.1 (vx_lt hS.1 hj)), hS.2.1⟩, Nat.le_trans hS.2.2.1 hle, fun q h1 h2 => by rw [hq q (Nat.lt_of_lt_of_le h1 hS.2.2.1)]; exact hS.2.2.2.1 q h1 h2⟩)
    hS.2.2.2.2 (Nat.le_refl _) (Nat.le_refl _)
theorem CtXI.of {l : Launch} {D : va_G} {tys : List (ClassId × FieldType)} {y : MethodName} {wy : List Cond} {rm : Room} {As : List Value} {w0 w1 wx : va_W} {th : Nat} {rv : Int32} {cc : ByteArray} {maxL : Nat} (hfl : l.stackTraces = false) (hyc : y.cls = RX5) (hy : plainName y.cls = true) (hw : wy = Cond.code y cc maxL (some .int) :: TBL) (hlen : (lg_sl As).length ≤ maxL) (hR : rm.cells = 1 ∧ rm.slots = 6 ∧ 6 ≤ rm.frames ∧ 82 ≤ rm.locals)
    (body : ∀ (p : Program) (e : Env) (s : State) (m : MethodId) (args : Array Value) (below : List Frame) (meth : Method) (c : Code) (A : Nat → Prop) (H0 : Heap) (Q : State → Prop) (ls : Array Slot), Cx p s m c args cc maxL wy y.cls D tys A H0 → HS D A H0 w0 H0 [] → lv_has ls maxL (lv_args 0 As) →
      (∀ (H : Heap) (locs : List Loc) (pc : Nat) (ls : Array Slot), th = 0 → HS D A H0 w1 H locs → decode cc pc = .ok (.ireturn, 1) → W p l e rm s m args below meth c H locs 0 0 Q (F0 m pc ls [.int rv])) →
      (∀ (k is : Nat) (tx : String) (H : Heap) (locs : List Loc) (pc : Nat) (ls : Array Slot), th = k → (k = 1 ∨ k = 2 ∨ k = 3) → (is, tx) ∈ txL → HS D A H0 wx H locs → ls.size = maxL → decode cc pc = .ok (.new (exIk k), 3) → decode cc (pc + 3) = .ok (.dup, 1) → decode cc (pc + 4) = .ok (.ldc is, 2) → decode cc (pc + 6) = .ok (.invokespecial (exIc k), 3) → decode cc (pc + 9) = .ok (.athrow, 1) → W p l e rm s m args below meth c H locs 0 0 Q (F0 m pc ls [])) →
      W p l e rm s m args below meth c H0 [] 0 0 Q (F0 m 0 ls [])) : CtXI l D tys y wy rm As w0 w1 wx th rv := by
  intro sz
  refine vx_ofW (cc := cc) (maxL := maxL) (ret := some .int) hy hw ?_
  intro p e s m args below meth c s₁ B hml ht hv
  obtain ⟨rfl, ⟨hsz, hP, hK, hD0⟩, hE, hZ⟩ := hv
  have hlocks := B.notSynchronized
  subst hsz
  rw [lg_entry_eq]
  have hown := findClass_of_methodNamed B.named
  have hts := atoms_spec (ws := wy) B.pre
  refine body p e s m _ below meth c (va_A w0 s.heap.size) s.heap _ _ ⟨⟨B.exec, B.bytes, hml, hown, hts⟩, hK, fun q h => Or.inr h⟩ ⟨hP, hD0.self, va_S.rf⟩ (lv_entry As hlen) ?_ ?_
  · intro H locs pc ls h0 hS hdg
    refine vx_ret ?_
    refine W.widen (k := 1) (n := 6) (by omega) (by omega) ?_
    exact W.iret B.exec B.bytes B.returns (fun t ht hW => ⟨⟨rv, (), rfl, ⟨h0, rfl⟩, by rw [ht]; exact hS.1, hS.2.1⟩, hS.2.2.F ht⟩) hS.2.2.2.2 hdg
  · intro k is tx H locs pc ls hth hk htx hS hsl d0 d3 d4 d6 d9
    exact ex_throw (k := k) (is := is) (tx := tx) B.exec B.bytes hfl hml (hyc ▸ hown) hts hw ht hlocks hE hZ hR hth hk htx hS hsl d0 d3 d4 d6 d9
theorem CtXV.of {l : Launch} {D : va_G} {tys : List (ClassId × FieldType)} {y : MethodName} {wy : List Cond} {rm : Room} {As : List Value} {w0 w1 wx : va_W} {th : Nat} {cc : ByteArray} {maxL : Nat} (hfl : l.stackTraces = false) (hyc : y.cls = RX5) (hy : plainName y.cls = true) (hw : wy = Cond.code y cc maxL none :: TBL) (hlen : (lg_sl As).length ≤ maxL) (hR : rm.cells = 1 ∧ rm.slots = 6 ∧ 6 ≤ rm.frames ∧ 82 ≤ rm.locals)
    (body : ∀ (p : Program) (e : Env) (s : State) (m : MethodId) (args : Array Value) (below : List Frame) (meth : Method) (c : Code) (A : Nat → Prop) (H0 : Heap) (Q : State → Prop) (ls : Array Slot), Cx p s m c args cc maxL wy y.cls D tys A H0 → HS D A H0 w0 H0 [] → lv_has ls maxL (lv_args 0 As) →
      (∀ (H : Heap) (locs : List Loc) (pc : Nat) (ls : Array Slot), th = 0 → HS D A H0 w1 H locs → decode cc pc = .ok (.return_, 1) → W p l e rm s m args below meth c H locs 0 0 Q (F0 m pc ls [])) →
      (∀ (k is : Nat) (tx : String) (H : Heap) (locs : List Loc) (pc : Nat) (ls : Array Slot), th = k → (k = 1 ∨ k = 2 ∨ k = 3) → (is, tx) ∈ txL → HS D A H0 wx H locs → ls.size = maxL → decode cc pc = .ok (.new (exIk k), 3) → decode cc (pc + 3) = .ok (.dup, 1) → decode cc (pc + 4) = .ok (.ldc is, 2) → decode cc (pc + 6) = .ok (.invokespecial (exIc k), 3) → decode cc (pc + 9) = .ok (.athrow, 1) → W p l e rm s m args below meth c H locs 0 0 Q (F0 m pc ls [])) →
      W p l e rm s m args below meth c H0 [] 0 0 Q (F0 m 0 ls [])) : CtXV l D tys y wy rm As w0 w1 wx th := by
  intro sz
  refine vx_ofW (cc := cc) (maxL := maxL) (ret := none) hy hw ?_
  intro p e s m args below meth c s₁ B hml ht hv
  obtain ⟨rfl, ⟨hsz, hP, hK, hD0⟩, hE, hZ⟩ := hv
  have hlocks := B.notSynchronized
  subst hsz
  rw [lg_entry_eq]
  have hown := findClass_of_methodNamed B.named
  have hts := atoms_spec (ws := wy) B.pre
  refine body p e s m _ below meth c (va_A w0 s.heap.size) s.heap _ _ ⟨⟨B.exec, B.bytes, hml, hown, hts⟩, hK, fun q h => Or.inr h⟩ ⟨hP, hD0.self, va_S.rf⟩ (lv_entry As hlen) ?_ ?_
  · intro H locs pc ls h0 hS hdg
    refine vx_ret ?_
    refine W.widen (k := 1) (n := 6) (by omega) (by omega) ?_
    exact W.vret B.exec B.bytes B.returns (fun t ht hW => ⟨⟨(), rfl, h0, by rw [ht]; exact hS.1, hS.2.1⟩, hS.2.2.F ht⟩) hS.2.2.2.2 hdg
  · intro k is tx H locs pc ls hth hk htx hS hsl d0 d3 d4 d6 d9
    exact ex_throw (k := k) (is := is) (tx := tx) B.exec B.bytes hfl hml (hyc ▸ hown) hts hw ht hlocks hE hZ hR hth hk htx hS hsl d0 d3 d4 d6 d9
/-- .. where a reference of the world behind it is left open -/
def CtXIe (l : Launch) (D : va_G) (tys : List (ClassId × FieldType)) (y : MethodName) (wy : List Cond) (rm : Room) (As : List Value) (w0 : va_W) (w1 : Nat → Nat → va_W) (wx : va_W) (th : Nat) (rv : Int32) : Prop :=
  ∀ sz : Nat, vx_Met l y wy rm (va_Pc As (CtWX sz D tys w0)) (va_Qi (fun (r : Int32) (_ : Nat × Nat) => th = 0 ∧ r = rv) (fun u t => va_P D vwCl (w1 u.1 u.2) t.heap ∧ va_D (va_A w0 sz) (w1 u.1 u.2)) (va_A w0 sz))
    (vx_X (fun (_ : Unit) => True) (fun E _ t => (th = 1 ∨ th = 2 ∨ th = 3) ∧ E = exNm th ∧ va_P D vwCl wx t.heap ∧ va_D (va_A w0 sz) wx) (va_A w0 sz)) 1 6 (va_A w0 sz)
theorem CtXIe.of {l : Launch} {D : va_G} {tys : List (ClassId × FieldType)} {y : MethodName} {wy : List Cond} {rm : Room} {As : List Value} {w0 wx : va_W} {w1 : Nat → Nat → va_W} {th : Nat} {rv : Int32} {cc : ByteArray} {maxL : Nat} (hfl : l.stackTraces = false) (hyc : y.cls = RX5) (hy : plainName y.cls = true) (hw : wy = Cond.code y cc maxL (some .int) :: TBL) (hlen : (lg_sl As).length ≤ maxL) (hR : rm.cells = 1 ∧ rm.slots = 6 ∧ 6 ≤ rm.frames ∧ 82 ≤ rm.locals)
    (body : ∀ (p : Program) (e : Env) (s : State) (m : MethodId) (args : Array Value) (below : List Frame) (meth : Method) (c : Code) (A : Nat → Prop) (H0 : Heap) (Q : State → Prop) (ls : Array Slot), Cx p s m c args cc maxL wy y.cls D tys A H0 → HS D A H0 w0 H0 [] → lv_has ls maxL (lv_args 0 As) →
      (∀ (u u9 : Nat) (H : Heap) (locs : List Loc) (pc : Nat) (ls : Array Slot), th = 0 → HS D A H0 (w1 u u9) H locs → decode cc pc = .ok (.ireturn, 1) → W p l e rm s m args below meth c H locs 0 0 Q (F0 m pc ls [.int rv])) →
      (∀ (k is : Nat) (tx : String) (H : Heap) (locs : List Loc) (pc : Nat) (ls : Array Slot), th = k → (k = 1 ∨ k = 2 ∨ k = 3) → (is, tx) ∈ txL → HS D A H0 wx H locs → ls.size = maxL → decode cc pc = .ok (.new (exIk k), 3) → decode cc (pc + 3) = .ok (.dup, 1) → decode cc (pc + 4) = .ok (.ldc is, 2) → decode cc (pc + 6) = .ok (.invokespecial (exIc k), 3) → decode cc (pc + 9) = .ok (.athrow, 1) → W p l e rm s m args below meth c H locs 0 0 Q (F0 m pc ls [])) →
      W p l e rm s m args below meth c H0 [] 0 0 Q (F0 m 0 ls [])) : CtXIe l D tys y wy rm As w0 w1 wx th rv := by
  intro sz
  refine vx_ofW (cc := cc) (maxL := maxL) (ret := some .int) hy hw ?_
  intro p e s m args below meth c s₁ B hml ht hv
  obtain ⟨rfl, ⟨hsz, hP, hK, hD0⟩, hE, hZ⟩ := hv
  have hlocks := B.notSynchronized
  subst hsz
  rw [lg_entry_eq]
  have hown := findClass_of_methodNamed B.named
  have hts := atoms_spec (ws := wy) B.pre
  refine body p e s m _ below meth c (va_A w0 s.heap.size) s.heap _ _ ⟨⟨B.exec, B.bytes, hml, hown, hts⟩, hK, fun q h => Or.inr h⟩ ⟨hP, hD0.self, va_S.rf⟩ (lv_entry As hlen) ?_ ?_
  · intro u u9 H locs pc ls h0 hS hdg
    refine vx_ret ?_
    refine W.widen (k := 1) (n := 6) (by omega) (by omega) ?_
    exact W.iret B.exec B.bytes B.returns (fun t ht hW => ⟨⟨rv, (u, u9), rfl, ⟨h0, rfl⟩, by rw [ht]; exact hS.1, hS.2.1⟩, hS.2.2.F ht⟩) hS.2.2.2.2 hdg
  · intro k is tx H locs pc ls hth hk htx hS hsl d0 d3 d4 d6 d9
    exact ex_throw (k := k) (is := is) (tx := tx) B.exec B.bytes hfl hml (hyc ▸ hown) hts hw ht hlocks hE hZ hR hth hk htx hS hsl d0 d3 d4 d6 d9
