/-! ===== own rows over the kit: worlds with their frame, contracts with one answer, calls ===== -/
def nestL : List Cond := [.methodLinkNest RX5 9 yX1_init RX5, .methodLinkNest RX5 21 yX4_init RX5, .methodLinkNest RX4 11 yX1_init RX5, .methodLinkNest RX5 37 yX2_init RX5, .methodLinkNest RX2 11 yX4_init RX5, .methodLinkNest RX5 44 yX0_init RX5, .methodLinkNest RX0 29 yX5_at RX5, .methodLinkNest RX0 33 yX5_put RX5, .methodLinkNest RX4 68 yX5_isCard RX5, .methodLinkNest RX4 166 yX5_put RX5, .methodLinkNest RX4 92 yX5_at RX5, .methodLinkNest RX4 127 yX5_isCell RX5, .methodLinkNest RX4 133 yX5_isColumn RX5, .methodLinkNest RX4 162 yX5_codeOf RX5, .methodLinkNest RX2 95 yX5_put RX5, .methodLinkNest RX2 65 yX5_at RX5]
/-- the words of nest mates, at a state -/
def NW (U : State) : Prop := ∀ w ∈ nestL, va_Nw w U
theorem NW.warm {s U : State} (hW : s.WarmedH U.vm) (h : NW s) : NW U := by
  intro w hw
  have h1 := h w hw
  simp only [nestL, List.mem_cons, List.not_mem_nil, or_false] at hw
  rcases hw with rfl | rfl | rfl | rfl | rfl | rfl | rfl | rfl | rfl | rfl | rfl | rfl | rfl | rfl | rfl | rfl <;> exact va_Nw.warmM hW h1
theorem NW.same {u U : State} (hv : u.vm = U.vm) (h : NW u) : NW U := by
  intro w hw
  have h1 := h w hw
  simp only [nestL, List.mem_cons, List.not_mem_nil, or_false] at hw
  rcases hw with rfl | rfl | rfl | rfl | rfl | rfl | rfl | rfl | rfl | rfl | rfl | rfl | rfl | rfl | rfl | rfl <;> exact va_Nw.same rfl hv h1
/-- what holds of the machine's tables at a state: classes, array classes, nest mates -/
def KN (D : va_G) (tys : List (ClassId × FieldType)) (U : State) : Prop := va_K D vwCl tys U ∧ NW U
theorem KN.warm {D : va_G} {tys : List (ClassId × FieldType)} {s U : State} (hW : s.WarmedH U.vm) (h : KN D tys s) : KN D tys U := ⟨va_K.moved hW.alike h.1, NW.warm hW h.2⟩
/-- a world of cells in a heap, apart, all in A, and what changed since H0 lies in A -/
def HS (D : va_G) (A : Nat → Prop) (H0 : Heap) (ws : va_W) (H : Heap) (locs : List Loc) : Prop := va_P D vwCl ws H ∧ va_D A ws ∧ va_S A H0 H locs
theorem HS.cast {D : va_G} {A : Nat → Prop} {H0 : Heap} {ws ws' : va_W} {H : Heap} {locs : List Loc} (h : HS D A H0 ws H locs) (e : ws = ws') : HS D A H0 ws' H locs := e ▸ h
theorem HS.sub {D : va_G} {A : Nat → Prop} {H0 : Heap} {ws ws' : va_W} {H : Heap} {locs : List Loc} (h : HS D A H0 ws H locs) (is : List Nat) (hn : va_nd is = true) (hs : is.map (fun i => ws[i]?) = ws'.map some) : HS D A H0 ws' H locs := by
  have hf : is.filterMap (fun i => ws[i]?) = ws' := by
    have h1 : is.filterMap (fun i => ws[i]?) = (is.map (fun i => ws[i]?)).filterMap id := by rw [List.filterMap_map]; rfl
    rw [h1, hs, List.filterMap_map]
    simp
  exact ⟨h.1.sub is hf, h.2.1.sub is hn hs, h.2.2⟩
def CtW (sz : Nat) (D : va_G) (tys : List (ClassId × FieldType)) (w0 : va_W) : State → Prop := fun U => U.heap.size = sz ∧ va_P D vwCl w0 U.heap ∧ KN D tys U ∧ va_D (fun _ => True) w0
/-- contracts: the method, from the world w0, returns rv and leaves the world w1 -/
def CtI (l : Launch) (D : va_G) (tys : List (ClassId × FieldType)) (y : MethodName) (wy : List Cond) (rm : Room) (As : List Value) (w0 w1 : va_W) (rv : Int32) : Prop :=
  ∀ sz : Nat, Met l y wy rm (va_Pc As (CtW sz D tys w0)) (va_Qi (fun (r : Int32) (_ : Unit) => r = rv) (fun _ t => va_P D vwCl w1 t.heap ∧ va_D (va_A w0 sz) w1) (va_A w0 sz)) 0 0 (va_A w0 sz)
def CtL (l : Launch) (D : va_G) (tys : List (ClassId × FieldType)) (y : MethodName) (wy : List Cond) (rm : Room) (As : List Value) (w0 w1 : va_W) (rv : Int64) : Prop :=
  ∀ sz : Nat, Met l y wy rm (va_Pc As (CtW sz D tys w0)) (va_Ql (fun (r : Int64) (_ : Unit) => r = rv) (fun _ t => va_P D vwCl w1 t.heap ∧ va_D (va_A w0 sz) w1) (va_A w0 sz)) 0 0 (va_A w0 sz)
def CtV (l : Launch) (D : va_G) (tys : List (ClassId × FieldType)) (y : MethodName) (wy : List Cond) (rm : Room) (As : List Value) (w0 w1 : va_W) : Prop :=
  ∀ sz : Nat, Met l y wy rm (va_Pc As (CtW sz D tys w0)) (va_Qv (fun (_ : Unit) => True) (fun _ t => va_P D vwCl w1 t.heap ∧ va_D (va_A w0 sz) w1) (va_A w0 sz)) 0 0 (va_A w0 sz)
/-- what a body knows -/
def Cx (p : Program) (s : State) (m : MethodId) (c : Code) (args : Array Value) (cc : ByteArray) (nL : Nat) (Ts : List Cond) (own : String) (D : va_G) (tys : List (ClassId × FieldType)) (A : Nat → Prop) (H0 : Heap) : Prop :=
  CallFix p m c cc nL s args Ts own ∧ KN D tys s ∧ ∀ q : Nat, H0.size ≤ q → A q
theorem CtI.of {l : Launch} {D : va_G} {tys : List (ClassId × FieldType)} {y : MethodName} {wy ws' : List Cond} {rm : Room} {As : List Value} {w0 w1 : va_W} {rv : Int32} {cc : ByteArray} {maxL : Nat} (hy : plainName y.cls = true) (hw : wy = Cond.code y cc maxL (some .int) :: ws') (hlen : (lg_sl As).length ≤ maxL)
    (body : ∀ (p : Program) (e : Env) (s : State) (m : MethodId) (args : Array Value) (below : List Frame) (meth : Method) (c : Code) (A : Nat → Prop) (H0 : Heap) (Q : State → Prop) (ls : Array Slot), Cx p s m c args cc maxL wy y.cls D tys A H0 → HS D A H0 w0 H0 [] → lv_has ls maxL (lv_args 0 As) →
      (∀ (H : Heap) (locs : List Loc) (pc : Nat) (ls : Array Slot), HS D A H0 w1 H locs → decode cc pc = .ok (.ireturn, 1) → W p l e rm s m args below meth c H locs 0 0 Q (F0 m pc ls [.int rv])) → W p l e rm s m args below meth c H0 [] 0 0 Q (F0 m 0 ls [])) : CtI l D tys y wy rm As w0 w1 rv := by
  intro sz
  refine Met.ofW (cc := cc) (maxL := maxL) (ret := some .int) hy hw ?_
  intro p e s m args below meth c s₁ B hml hv
  obtain ⟨rfl, hsz, hP, hK, hD0⟩ := hv
  have hlocks := B.notSynchronized
  subst hsz
  rw [lg_entry_eq]
  refine body p e s m _ below meth c (va_A w0 s.heap.size) s.heap _ _ ⟨⟨B.exec, B.bytes, hml, findClass_of_methodNamed B.named, atoms_spec (ws := wy) B.pre⟩, hK, fun q h => Or.inr h⟩ ⟨hP, hD0.self, va_S.rf⟩ (lv_entry As hlen) ?_
  intro H locs pc ls hS hdg
  exact W.iret B.exec B.bytes B.returns (fun t ht hW => ⟨⟨rv, (), rfl, rfl, by rw [ht]; exact hS.1, hS.2.1⟩, hS.2.2.F ht⟩) hS.2.2.2.2 hdg
theorem CtZ.of {l : Launch} {D : va_G} {tys : List (ClassId × FieldType)} {y : MethodName} {wy ws' : List Cond} {rm : Room} {As : List Value} {w0 w1 : va_W} {rv : Int32} {cc : ByteArray} {maxL : Nat} (hy : plainName y.cls = true) (hw : wy = Cond.code y cc maxL (some .boolean) :: ws') (hlen : (lg_sl As).length ≤ maxL)
    (body : ∀ (p : Program) (e : Env) (s : State) (m : MethodId) (args : Array Value) (below : List Frame) (meth : Method) (c : Code) (A : Nat → Prop) (H0 : Heap) (Q : State → Prop) (ls : Array Slot), Cx p s m c args cc maxL wy y.cls D tys A H0 → HS D A H0 w0 H0 [] → lv_has ls maxL (lv_args 0 As) →
      (∀ (H : Heap) (locs : List Loc) (pc : Nat) (ls : Array Slot), (rv = 0 ∨ rv = 1) → HS D A H0 w1 H locs → decode cc pc = .ok (.ireturn, 1) → W p l e rm s m args below meth c H locs 0 0 Q (F0 m pc ls [.int rv])) → W p l e rm s m args below meth c H0 [] 0 0 Q (F0 m 0 ls [])) : CtI l D tys y wy rm As w0 w1 rv := by
  intro sz
  refine Met.ofW (cc := cc) (maxL := maxL) (ret := some .boolean) hy hw ?_
  intro p e s m args below meth c s₁ B hml hv
  obtain ⟨rfl, hsz, hP, hK, hD0⟩ := hv
  have hlocks := B.notSynchronized
  subst hsz
  rw [lg_entry_eq]
  refine body p e s m _ below meth c (va_A w0 s.heap.size) s.heap _ _ ⟨⟨B.exec, B.bytes, hml, findClass_of_methodNamed B.named, atoms_spec (ws := wy) B.pre⟩, hK, fun q h => Or.inr h⟩ ⟨hP, hD0.self, va_S.rf⟩ (lv_entry As hlen) ?_
  intro H locs pc ls h01 hS hdg
  have hn : narrow .boolean (.int rv) = .int rv := by rcases h01 with h | h <;> subst h <;> decide
  exact W.zret B.exec B.bytes B.returns hn (fun t ht hW => ⟨⟨rv, (), rfl, rfl, by rw [ht]; exact hS.1, hS.2.1⟩, hS.2.2.F ht⟩) hS.2.2.2.2 hdg
theorem CtL.of {l : Launch} {D : va_G} {tys : List (ClassId × FieldType)} {y : MethodName} {wy ws' : List Cond} {rm : Room} {As : List Value} {w0 w1 : va_W} {rv : Int64} {cc : ByteArray} {maxL : Nat} (hy : plainName y.cls = true) (hw : wy = Cond.code y cc maxL (some .long) :: ws') (hlen : (lg_sl As).length ≤ maxL)
    (body : ∀ (p : Program) (e : Env) (s : State) (m : MethodId) (args : Array Value) (below : List Frame) (meth : Method) (c : Code) (A : Nat → Prop) (H0 : Heap) (Q : State → Prop) (ls : Array Slot), Cx p s m c args cc maxL wy y.cls D tys A H0 → HS D A H0 w0 H0 [] → lv_has ls maxL (lv_args 0 As) →
      (∀ (H : Heap) (locs : List Loc) (pc : Nat) (ls : Array Slot), HS D A H0 w1 H locs → decode cc pc = .ok (.lreturn, 1) → W p l e rm s m args below meth c H locs 0 0 Q (F0 m pc ls [.long rv])) → W p l e rm s m args below meth c H0 [] 0 0 Q (F0 m 0 ls [])) : CtL l D tys y wy rm As w0 w1 rv := by
  intro sz
  refine Met.ofW (cc := cc) (maxL := maxL) (ret := some .long) hy hw ?_
  intro p e s m args below meth c s₁ B hml hv
  obtain ⟨rfl, hsz, hP, hK, hD0⟩ := hv
  have hlocks := B.notSynchronized
  subst hsz
  rw [lg_entry_eq]
  refine body p e s m _ below meth c (va_A w0 s.heap.size) s.heap _ _ ⟨⟨B.exec, B.bytes, hml, findClass_of_methodNamed B.named, atoms_spec (ws := wy) B.pre⟩, hK, fun q h => Or.inr h⟩ ⟨hP, hD0.self, va_S.rf⟩ (lv_entry As hlen) ?_
  intro H locs pc ls hS hdg
  exact W.lret B.exec B.bytes B.returns (fun t ht hW => ⟨⟨rv, (), rfl, rfl, by rw [ht]; exact hS.1, hS.2.1⟩, hS.2.2.F ht⟩) hS.2.2.2.2 hdg
theorem CtV.of {l : Launch} {D : va_G} {tys : List (ClassId × FieldType)} {y : MethodName} {wy ws' : List Cond} {rm : Room} {As : List Value} {w0 w1 : va_W} {cc : ByteArray} {maxL : Nat} (hy : plainName y.cls = true) (hw : wy = Cond.code y cc maxL none :: ws') (hlen : (lg_sl As).length ≤ maxL)
    (body : ∀ (p : Program) (e : Env) (s : State) (m : MethodId) (args : Array Value) (below : List Frame) (meth : Method) (c : Code) (A : Nat → Prop) (H0 : Heap) (Q : State → Prop) (ls : Array Slot), Cx p s m c args cc maxL wy y.cls D tys A H0 → HS D A H0 w0 H0 [] → lv_has ls maxL (lv_args 0 As) →
      (∀ (H : Heap) (locs : List Loc) (pc : Nat) (ls : Array Slot), HS D A H0 w1 H locs → decode cc pc = .ok (.return_, 1) → W p l e rm s m args below meth c H locs 0 0 Q (F0 m pc ls [])) → W p l e rm s m args below meth c H0 [] 0 0 Q (F0 m 0 ls [])) : CtV l D tys y wy rm As w0 w1 := by
  intro sz
  refine Met.ofW (cc := cc) (maxL := maxL) (ret := none) hy hw ?_
  intro p e s m args below meth c s₁ B hml hv
  obtain ⟨rfl, hsz, hP, hK, hD0⟩ := hv
  have hlocks := B.notSynchronized
  subst hsz
  rw [lg_entry_eq]
  refine body p e s m _ below meth c (va_A w0 s.heap.size) s.heap _ _ ⟨⟨B.exec, B.bytes, hml, findClass_of_methodNamed B.named, atoms_spec (ws := wy) B.pre⟩, hK, fun q h => Or.inr h⟩ ⟨hP, hD0.self, va_S.rf⟩ (lv_entry As hlen) ?_
  intro H locs pc ls hS hdg
  exact W.vret B.exec B.bytes B.returns (fun t ht hW => ⟨⟨(), rfl, trivial, by rw [ht]; exact hS.1, hS.2.1⟩, hS.2.2.F ht⟩) hS.2.2.2.2 hdg
section
variable {p : Program} {l : Launch} {e : Env} {R : Room} {s : State} {m : MethodId} {args : Array Value} {below : List Frame} {meth : Method} {c : Code} {H H0 : Heap} {locs : List Loc} {cells slots : Nat} {Q : State → Prop} {cc : ByteArray} {pc : Nat} {ls : Array Slot} {rest : List Value} {D : va_G} {A : Nat → Prop} {ws w2 : va_W} {a : Nat} {tys : List (ClassId × FieldType)} {Ts : List Cond} {own : String} {nL : Nat}
theorem r_get (hexec : p.tables.exec = Jvm.exec) (hb : c.code = cc) (hts : ∀ w ∈ Ts, w.before args s = true) {C : String} {T : u_T} {N ci index : Nat} (hin : ∀ w ∈ u_ws C T N, w ∈ Ts) (hown : s.vm.findClass own = some m.cls) (hKN : KN D tys s) (hS : HS D A H0 ws H locs) (q0 k : Nat) {fs : List Value} {v : Value} (he : ws[q0]? = some (a, .inr (ci, fs))) (hc : vwCl[ci]? = some (C, T, N)) (hk : k < N) (hlink : (Cond.fieldLink own index (T k).1 (T k).2.1 (T k).2.2.1).before args s = true) (hv : fs[k]? = some v) (hdg : decode cc pc = .ok (.getfield index, 3))
    (kk : W p l e R s m args below meth c H locs cells slots Q (F0 m (pc + 3) ls (v :: rest))) : W p l e R s m args below meth c H locs cells slots Q (F0 m pc ls (.ref a :: rest)) :=
  va_get hexec hb hts hin hown hKN.1 hS.1 q0 he hc k hk hlink (fun _ h => h) hv hdg kk
theorem r_put (hexec : p.tables.exec = Jvm.exec) (hb : c.code = cc) (hts : ∀ w ∈ Ts, w.before args s = true) {C : String} {T : u_T} {N ci index : Nat} (hin : ∀ w ∈ u_ws C T N, w ∈ Ts) (ty0 : Nat → FieldType) (hty : ∀ k, k < N → parseFieldDescriptor (T k).2.2.1 = some (ty0 k)) (hnm : ∀ a, a < N → ∀ b, b < N → a ≠ b → (T a).2.1 ≠ (T b).2.1) (hown : s.vm.findClass own = some m.cls) (hKN : KN D tys s) (hS : HS D A H0 ws H locs) (q0 k : Nat) {fs : List Value} {v : Value} (he : ws[q0]? = some (a, .inr (ci, fs))) (hc : vwCl[ci]? = some (C, T, N)) (hk : k < N) (hlink : (Cond.fieldLink own index (T k).1 (T k).2.1 (T k).2.2.1).before args s = true) (hfin : (T k).2.2.2 = false) (hn : narrow (ty0 k) v = v) (hfit : fits (ty0 k) v = true) (hl : k < fs.length)
    (hdg : decode cc pc = .ok (.putfield index, 3)) (hw2 : ws.set q0 (a, .inr (ci, fs.set k v)) = w2) (kk : ∀ (H1 : Heap) (locs1 : List Loc), HS D A H0 w2 H1 locs1 → W p l e R s m args below meth c H1 locs1 cells slots Q (F0 m (pc + 3) ls rest)) : W p l e R s m args below meth c H locs cells slots Q (F0 m pc ls (v :: .ref a :: rest)) :=
  va_put hexec hb hts hin ty0 hty hnm hown hKN.1 hS.1 hS.2.1 hS.2.2 q0 he hc k hk hlink (fun _ h => h) hfin (hty k hk) hn hfit hl hdg (fun H1 locs1 h1 h2 h3 => kk H1 locs1 (hw2 ▸ ⟨h1, h2, h3⟩))
theorem r_iald (hexec : p.tables.exec = Jvm.exec) (hb : c.code = cc) (hKN : KN D tys s) (hS : HS D A H0 ws H locs) (q0 : Nat) {cA : ClassId} {n : Nat} {f : Nat → Int32} (ha : ws[q0]? = some (a, .inl (cA, n, .inl f))) (ht : tys[0]? = some (cA, .int)) {i x : Int32} (hin : vp_in i n) (hdg : decode cc pc = .ok (.iaload, 1)) (ex : x = f i.toNatClampNeg)
    (kk : W p l e R s m args below meth c H locs cells slots Q (F0 m (pc + 1) ls (.int x :: rest))) : W p l e R s m args below meth c H locs cells slots Q (F0 m pc ls (.int i :: .ref a :: rest)) :=
  va_iald hexec hb hKN.1 hS.1 q0 0 ha ht hin hdg (ex ▸ kk)
theorem r_lald (hexec : p.tables.exec = Jvm.exec) (hb : c.code = cc) (hKN : KN D tys s) (hS : HS D A H0 ws H locs) (q0 : Nat) {cA : ClassId} {n : Nat} {f : Nat → Int64} (ha : ws[q0]? = some (a, .inl (cA, n, .inr (.inl f)))) (ht : tys[1]? = some (cA, .long)) {i : Int32} {x : Int64} (hin : vp_in i n) (hdg : decode cc pc = .ok (.laload, 1)) (ex : x = f i.toNatClampNeg)
    (kk : W p l e R s m args below meth c H locs cells slots Q (F0 m (pc + 1) ls (.long x :: rest))) : W p l e R s m args below meth c H locs cells slots Q (F0 m pc ls (.int i :: .ref a :: rest)) :=
  va_lald hexec hb hKN.1 hS.1 q0 1 ha ht hin hdg (ex ▸ kk)
theorem r_iast (hexec : p.tables.exec = Jvm.exec) (hb : c.code = cc) (hKN : KN D tys s) (hS : HS D A H0 ws H locs) (q0 : Nat) {cA : ClassId} {n : Nat} {f : Nat → Int32} (ha : ws[q0]? = some (a, .inl (cA, n, .inl f))) (ht : tys[0]? = some (cA, .int)) {i x : Int32} (hin : vp_in i n) (hdg : decode cc pc = .ok (.iastore, 1)) (hw2 : ws.set q0 (a, .inl (cA, n, .inl (upd f i.toNatClampNeg x))) = w2)
    (kk : ∀ (H1 : Heap) (locs1 : List Loc), HS D A H0 w2 H1 locs1 → W p l e R s m args below meth c H1 locs1 cells slots Q (F0 m (pc + 1) ls rest)) : W p l e R s m args below meth c H locs cells slots Q (F0 m pc ls (.int x :: .int i :: .ref a :: rest)) :=
  va_iast hexec hb hKN.1 hS.1 hS.2.1 hS.2.2 q0 0 ha ht hin hdg (fun H1 locs1 h1 h2 h3 => kk H1 locs1 (hw2 ▸ ⟨h1, h2, h3⟩))
theorem r_last (hexec : p.tables.exec = Jvm.exec) (hb : c.code = cc) (hKN : KN D tys s) (hS : HS D A H0 ws H locs) (q0 : Nat) {cA : ClassId} {n : Nat} {f : Nat → Int64} (ha : ws[q0]? = some (a, .inl (cA, n, .inr (.inl f)))) (ht : tys[1]? = some (cA, .long)) {i : Int32} {x : Int64} (hin : vp_in i n) (hdg : decode cc pc = .ok (.lastore, 1)) (hw2 : ws.set q0 (a, .inl (cA, n, .inr (.inl (vp_updL f i.toNatClampNeg x)))) = w2)
    (kk : ∀ (H1 : Heap) (locs1 : List Loc), HS D A H0 w2 H1 locs1 → W p l e R s m args below meth c H1 locs1 cells slots Q (F0 m (pc + 1) ls rest)) : W p l e R s m args below meth c H locs cells slots Q (F0 m pc ls (.long x :: .int i :: .ref a :: rest)) :=
  va_last hexec hb hKN.1 hS.1 hS.2.1 hS.2.2 q0 1 ha ht hin hdg (fun H1 locs1 h1 h2 h3 => kk H1 locs1 (hw2 ▸ ⟨h1, h2, h3⟩))
theorem r_alenI (hexec : p.tables.exec = Jvm.exec) (hb : c.code = cc) (hKN : KN D tys s) (hS : HS D A H0 ws H locs) (q0 : Nat) {cA : ClassId} {n : Nat} {x : (Nat → Int32) ⊕ (Nat → Int64) ⊕ (Nat → UInt32) ⊕ (Nat → UInt64) ⊕ (Nat → Option Nat)} (ha : ws[q0]? = some (a, .inl (cA, n, x))) (ht : tys[0]? = some (cA, .int)) (hdg : decode cc pc = .ok (.arraylength, 1))
    (kk : W p l e R s m args below meth c H locs cells slots Q (F0 m (pc + 1) ls (.int (nI n) :: rest))) : W p l e R s m args below meth c H locs cells slots Q (F0 m pc ls (.ref a :: rest)) :=
  va_alen hexec hb hKN.1 hS.1 q0 0 ha ht rfl hdg kk
theorem r_alenJ (hexec : p.tables.exec = Jvm.exec) (hb : c.code = cc) (hKN : KN D tys s) (hS : HS D A H0 ws H locs) (q0 : Nat) {cA : ClassId} {n : Nat} {x : (Nat → Int32) ⊕ (Nat → Int64) ⊕ (Nat → UInt32) ⊕ (Nat → UInt64) ⊕ (Nat → Option Nat)} (ha : ws[q0]? = some (a, .inl (cA, n, x))) (ht : tys[1]? = some (cA, .long)) (hdg : decode cc pc = .ok (.arraylength, 1))
    (kk : W p l e R s m args below meth c H locs cells slots Q (F0 m (pc + 1) ls (.int (nI n) :: rest))) : W p l e R s m args below meth c H locs cells slots Q (F0 m pc ls (.ref a :: rest)) :=
  va_alen hexec hb hKN.1 hS.1 q0 1 ha ht rfl hdg kk
theorem r_copyi (hexec : p.tables.exec = Jvm.exec) (hb : c.code = cc) (hml : c.maxLocals = ls.size) {index : Nat} (hown : s.vm.findClass own = some m.cls) (hlink : (Cond.methodLink own index arraycopyName).before args s = true) (hnat : (Cond.native arraycopyName).before args s = true) (hstat : (Cond.static arraycopyName).before args s = true) (hini : (Cond.initialized "java/lang/System").before args s = true) (hKN : KN D tys s) (hS : HS D A H0 ws H locs) (q0 q1 : Nat) {a0 : Nat} {c0 : ClassId} {n0 n1 : Nat} {f g : Nat → Int32} {n : Int32} {k : Nat} (ha0 : ws[q0]? = some (a0, .inl (c0, n0, .inl f))) (ha1 : ws[q1]? = some (a, .inl (c0, n1, .inl g))) (ht : tys[0]? = some (c0, .int)) (hk : n.toNatClampNeg = k) (h3 : ¬ n < 0) (h4 : k ≤ n0) (h5 : k ≤ n1) (hframes : 1 ≤ R.frames) (hlocals : (rest.map fun v => v.category).sum + (nativeFrameWords "java/lang/System" "arraycopy" 5 + 11) ≤ R.locals) (hdg : decode cc pc = .ok (.invokestatic index, 3)) (hw2 : ws.set q1 (a, .inl (c0, n1, .inl (va_cpy f g 0 0 k))) = w2)
    (kk : ∀ (H1 : Heap) (locs1 : List Loc), HS D A H0 w2 H1 locs1 → W p l e R s m args below meth c H1 locs1 cells slots Q (F0 m (pc + 3) ls rest)) : W p l e R s m args below meth c H locs cells slots Q (F0 m pc ls (.int n :: .int (nI 0) :: .ref a :: .int (nI 0) :: .ref a0 :: rest)) := by
  subst hk
  have z0 : nI 0 = (0 : Int32) := by decide
  rw [z0]
  have z : (0 : Int32).toNatClampNeg = 0 := by decide
  refine va_copyi hexec hb hml hown hlink hnat hstat hini hKN.1 hS.1 hS.2.1 hS.2.2 q0 q1 0 0 ha0 ha1 ht ht rfl (by decide) (by decide) h3 (by rw [z]; omega) (by rw [z]; omega) (fun _ _ => rfl) hframes hlocals hdg (fun H1 locs1 h1 h2 h6 => ?_)
  rw [z] at h1 h2
  exact kk H1 locs1 (hw2 ▸ ⟨h1, h2, h6⟩)
theorem toInt_ne {x k' : Int32} {k : Int} (h : ¬ x = k') (hk : k'.toInt = k) : x.toInt ≠ k := fun e => h (Int32.toInt_inj.mp (e.trans hk.symm))
theorem CtW.blind {sz : Nat} {As : List Value} {w0 : va_W} : FrameBlind (va_Pc As (CtW sz D tys w0)) := fun a U g mk q => by
  obtain ⟨q0, q1, qP, qK, qD⟩ := q
  exact ⟨q0, q1, qP, ⟨va_K.moved (u := U) (U := U.calling g mk a) (Vm.Alike.refl U.vm) qK.1, NW.same (u := U) (U := U.calling g mk a) rfl qK.2⟩, qD⟩
theorem CtW.pre {As : List Value} {wc : va_W} (hKN : KN D tys s) (hS : HS D A H0 ws H locs) (isC : List Nat) (hnC : va_nd isC = true) (hC : isC.map (fun i => ws[i]?) = wc.map some) : ∀ U : State, U.heap = H → s.WarmedH U.vm → va_Pc As (CtW H.size D tys wc) As.toArray U := by
  have h := hS.sub isC hnC hC
  exact fun U hU hW => ⟨rfl, by rw [hU], by rw [hU]; exact h.1, KN.warm hW hKN, h.2.1.weaken (fun _ _ _ _ => trivial)⟩
theorem hs_join {wc wr w1 : va_W} {H1 : Heap} {locs1 : List Loc} {t : State} (hS : HS D A H0 ws H locs) (isC isR : List Nat) (hC : isC.map (fun i => ws[i]?) = wc.map some) (hR : isR.map (fun i => ws[i]?) = wr.map some) (hn : va_nd isR = true) (hdis : ∀ i ∈ isR, i ∉ isC) (hA : ∀ q : Nat, H0.size ≤ q → A q) (hk1 : ∀ q : Nat, q < H.size → ¬ va_A wc H.size q → H1[q]? = H[q]?) (ht : t.heap = H1) (hB : va_P D vwCl w1 t.heap ∧ va_D (va_A wc H.size) w1) (hS1 : va_S A H0 H1 locs1) : HS D A H0 (wr ++ w1) H1 locs1 := by
  have hFc := va_free hS.2.1 hS.2.2 hA isC hC
  obtain ⟨hP1, hD1⟩ := hB
  rw [ht] at hP1
  obtain ⟨hP, hD⟩ := va_join hS.1 hS.2.1 isC isR hC hR hn hdis hk1 hFc hP1 hD1
  exact ⟨hP, hD, hS1⟩
end
section
variable {p : Program} {l : Launch} {e : Env} {R : Room} {s : State} {m : MethodId} {args : Array Value} {below : List Frame} {meth : Method} {c : Code} {H H0 : Heap} {locs : List Loc} {cells slots : Nat} {Q : State → Prop} {cc : ByteArray} {pc : Nat} {ls : Array Slot} {rest : List Value} {D : va_G} {A : Nat → Prop} {ws wc wr w1 w2 : va_W} {tys : List (ClassId × FieldType)} {Ts wy : List Cond} {own : String} {nL n maxL index : Nat} {y : MethodName} {rm : Room} {bytes : ByteArray} {ret : Option FieldType} {As st0 : List Value} {b : Addr}
theorem kV_i {C : String} {rv : Int32} (S : CallFix p m c cc nL s args Ts own) (hKN : KN D tys s) (hM : CtI l D tys y wy rm (.ref b :: As) wc w1 rv) (cw : CallW R s args own C index y bytes maxL ret wy rm 0 0 n) (hS : HS D A H0 ws H locs) (hA : ∀ q : Nat, H0.size ≤ q → A q) (isC isR : List Nat) (hnC : va_nd isC = true) (hC : isC.map (fun i => ws[i]?) = wc.map some) (hR : isR.map (fun i => ws[i]?) = wr.map some) (hnR : va_nd isR = true) (hdis : ∀ i ∈ isR, i ∉ isC) {ci : Nat} {fs : List Value} {T : u_T} {N : Nat} (hre : wc[0]? = some (b, .inr (ci, fs))) (hci : vwCl[ci]? = some (C, T, N)) (hln : As.length = n) (hsz : ls.size = nL) (hst : st0 = As.reverse ++ .ref b :: rest) (hcat : (rest.map fun v => v.category).sum ≤ 8) (hf : cells ≤ R.cells ∧ slots ≤ R.slots) (hdg : decode cc pc = .ok (.invokevirtual index, 3)) (hw2 : wr ++ w1 = w2)
    (kk : ∀ (H1 : Heap) (locs1 : List Loc), HS D A H0 w2 H1 locs1 → W p l e R s m args below meth c H1 locs1 cells slots Q (F0 m (pc + 3) ls (.int rv :: rest))) : W p l e R s m args below meth c H locs cells slots Q (F0 m pc ls st0) := by
  have hre' := (hS.sub isC hnC hC).1
  refine va_calli (va_runV (As := As) (rest := rest) S (hM H.size) cw ⟨CtW.blind, va_recv hKN.1 hre' hci hre, CtW.pre hKN hS isC hnC hC⟩ rfl hln hsz hst (lv_room hcat) hdg hf) hS.2.2 (fun q _ h => va_free hS.2.1 hS.2.2 hA isC hC q h) (va_free hS.2.1 hS.2.2 hA isC hC) (fun r u t H1 locs1 ht hvm hw hB hz1 hk1 hS1 => ?_)
  subst hw
  exact kk H1 locs1 ((hs_join hS isC isR hC hR hnR hdis hA hk1 ht hB hS1).cast hw2)
theorem kV_l {C : String} {rv : Int64} (S : CallFix p m c cc nL s args Ts own) (hKN : KN D tys s) (hM : CtL l D tys y wy rm (.ref b :: As) wc w1 rv) (cw : CallW R s args own C index y bytes maxL ret wy rm 0 0 n) (hS : HS D A H0 ws H locs) (hA : ∀ q : Nat, H0.size ≤ q → A q) (isC isR : List Nat) (hnC : va_nd isC = true) (hC : isC.map (fun i => ws[i]?) = wc.map some) (hR : isR.map (fun i => ws[i]?) = wr.map some) (hnR : va_nd isR = true) (hdis : ∀ i ∈ isR, i ∉ isC) {ci : Nat} {fs : List Value} {T : u_T} {N : Nat} (hre : wc[0]? = some (b, .inr (ci, fs))) (hci : vwCl[ci]? = some (C, T, N)) (hln : As.length = n) (hsz : ls.size = nL) (hst : st0 = As.reverse ++ .ref b :: rest) (hcat : (rest.map fun v => v.category).sum ≤ 8) (hf : cells ≤ R.cells ∧ slots ≤ R.slots) (hdg : decode cc pc = .ok (.invokevirtual index, 3)) (hw2 : wr ++ w1 = w2)
    (kk : ∀ (H1 : Heap) (locs1 : List Loc), HS D A H0 w2 H1 locs1 → W p l e R s m args below meth c H1 locs1 cells slots Q (F0 m (pc + 3) ls (.long rv :: rest))) : W p l e R s m args below meth c H locs cells slots Q (F0 m pc ls st0) := by
  have hre' := (hS.sub isC hnC hC).1
  refine va_calll (va_runV (As := As) (rest := rest) S (hM H.size) cw ⟨CtW.blind, va_recv hKN.1 hre' hci hre, CtW.pre hKN hS isC hnC hC⟩ rfl hln hsz hst (lv_room hcat) hdg hf) hS.2.2 (fun q _ h => va_free hS.2.1 hS.2.2 hA isC hC q h) (va_free hS.2.1 hS.2.2 hA isC hC) (fun r u t H1 locs1 ht hvm hw hB hz1 hk1 hS1 => ?_)
  subst hw
  exact kk H1 locs1 ((hs_join hS isC isR hC hR hnR hdis hA hk1 ht hB hS1).cast hw2)
theorem kV_v {C : String} (S : CallFix p m c cc nL s args Ts own) (hKN : KN D tys s) (hM : CtV l D tys y wy rm (.ref b :: As) wc w1) (cw : CallW R s args own C index y bytes maxL ret wy rm 0 0 n) (hS : HS D A H0 ws H locs) (hA : ∀ q : Nat, H0.size ≤ q → A q) (isC isR : List Nat) (hnC : va_nd isC = true) (hC : isC.map (fun i => ws[i]?) = wc.map some) (hR : isR.map (fun i => ws[i]?) = wr.map some) (hnR : va_nd isR = true) (hdis : ∀ i ∈ isR, i ∉ isC) {ci : Nat} {fs : List Value} {T : u_T} {N : Nat} (hre : wc[0]? = some (b, .inr (ci, fs))) (hci : vwCl[ci]? = some (C, T, N)) (hln : As.length = n) (hsz : ls.size = nL) (hst : st0 = As.reverse ++ .ref b :: rest) (hcat : (rest.map fun v => v.category).sum ≤ 8) (hf : cells ≤ R.cells ∧ slots ≤ R.slots) (hdg : decode cc pc = .ok (.invokevirtual index, 3)) (hw2 : wr ++ w1 = w2)
    (kk : ∀ (H1 : Heap) (locs1 : List Loc), HS D A H0 w2 H1 locs1 → W p l e R s m args below meth c H1 locs1 cells slots Q (F0 m (pc + 3) ls rest)) : W p l e R s m args below meth c H locs cells slots Q (F0 m pc ls st0) := by
  have hre' := (hS.sub isC hnC hC).1
  refine va_callv (va_runV (As := As) (rest := rest) S (hM H.size) cw ⟨CtW.blind, va_recv hKN.1 hre' hci hre, CtW.pre hKN hS isC hnC hC⟩ rfl hln hsz hst (lv_room hcat) hdg hf) hS.2.2 (fun q _ h => va_free hS.2.1 hS.2.2 hA isC hC q h) (va_free hS.2.1 hS.2.2 hA isC hC) (fun u t H1 locs1 ht hvm hw hB hz1 hk1 hS1 => ?_)
  exact kk H1 locs1 ((hs_join hS isC isR hC hR hnR hdis hA hk1 ht hB hS1).cast hw2)
theorem kS_i {rv : Int32} (S : CallFix p m c cc nL s args Ts own) (hKN : KN D tys s) (hM : CtI l D tys y wy rm As wc w1 rv) (cw : CallB R s args own index y bytes maxL ret wy rm 0 0 n ∧ (Cond.static y).before args s = true) (hS : HS D A H0 ws H locs) (hA : ∀ q : Nat, H0.size ≤ q → A q) (isC isR : List Nat) (hnC : va_nd isC = true) (hC : isC.map (fun i => ws[i]?) = wc.map some) (hR : isR.map (fun i => ws[i]?) = wr.map some) (hnR : va_nd isR = true) (hdis : ∀ i ∈ isR, i ∉ isC) (hln : As.length = n) (hsz : ls.size = nL) (hst : st0 = As.reverse ++ rest) (hcat : (rest.map fun v => v.category).sum ≤ 8) (hf : cells ≤ R.cells ∧ slots ≤ R.slots) (hdg : decode cc pc = .ok (.invokestatic index, 3)) (hw2 : wr ++ w1 = w2)
    (kk : ∀ (H1 : Heap) (locs1 : List Loc), HS D A H0 w2 H1 locs1 → W p l e R s m args below meth c H1 locs1 cells slots Q (F0 m (pc + 3) ls (.int rv :: rest))) : W p l e R s m args below meth c H locs cells slots Q (F0 m pc ls st0) := by
  refine va_calli (va_runS (As := As) (rest := rest) S (hM H.size) cw ⟨CtW.blind, CtW.pre hKN hS isC hnC hC⟩ rfl hln hsz hst (lv_room hcat) hdg hf) hS.2.2 (fun q _ h => va_free hS.2.1 hS.2.2 hA isC hC q h) (va_free hS.2.1 hS.2.2 hA isC hC) (fun r u t H1 locs1 ht hvm hw hB hz1 hk1 hS1 => ?_)
  subst hw
  exact kk H1 locs1 ((hs_join hS isC isR hC hR hnR hdis hA hk1 ht hB hS1).cast hw2)
theorem kS_l {rv : Int64} (S : CallFix p m c cc nL s args Ts own) (hKN : KN D tys s) (hM : CtL l D tys y wy rm As wc w1 rv) (cw : CallB R s args own index y bytes maxL ret wy rm 0 0 n ∧ (Cond.static y).before args s = true) (hS : HS D A H0 ws H locs) (hA : ∀ q : Nat, H0.size ≤ q → A q) (isC isR : List Nat) (hnC : va_nd isC = true) (hC : isC.map (fun i => ws[i]?) = wc.map some) (hR : isR.map (fun i => ws[i]?) = wr.map some) (hnR : va_nd isR = true) (hdis : ∀ i ∈ isR, i ∉ isC) (hln : As.length = n) (hsz : ls.size = nL) (hst : st0 = As.reverse ++ rest) (hcat : (rest.map fun v => v.category).sum ≤ 8) (hf : cells ≤ R.cells ∧ slots ≤ R.slots) (hdg : decode cc pc = .ok (.invokestatic index, 3)) (hw2 : wr ++ w1 = w2)
    (kk : ∀ (H1 : Heap) (locs1 : List Loc), HS D A H0 w2 H1 locs1 → W p l e R s m args below meth c H1 locs1 cells slots Q (F0 m (pc + 3) ls (.long rv :: rest))) : W p l e R s m args below meth c H locs cells slots Q (F0 m pc ls st0) := by
  refine va_calll (va_runS (As := As) (rest := rest) S (hM H.size) cw ⟨CtW.blind, CtW.pre hKN hS isC hnC hC⟩ rfl hln hsz hst (lv_room hcat) hdg hf) hS.2.2 (fun q _ h => va_free hS.2.1 hS.2.2 hA isC hC q h) (va_free hS.2.1 hS.2.2 hA isC hC) (fun r u t H1 locs1 ht hvm hw hB hz1 hk1 hS1 => ?_)
  subst hw
  exact kk H1 locs1 ((hs_join hS isC isR hC hR hnR hdis hA hk1 ht hB hS1).cast hw2)
theorem kS_v (S : CallFix p m c cc nL s args Ts own) (hKN : KN D tys s) (hM : CtV l D tys y wy rm As wc w1) (cw : CallB R s args own index y bytes maxL ret wy rm 0 0 n ∧ (Cond.static y).before args s = true) (hS : HS D A H0 ws H locs) (hA : ∀ q : Nat, H0.size ≤ q → A q) (isC isR : List Nat) (hnC : va_nd isC = true) (hC : isC.map (fun i => ws[i]?) = wc.map some) (hR : isR.map (fun i => ws[i]?) = wr.map some) (hnR : va_nd isR = true) (hdis : ∀ i ∈ isR, i ∉ isC) (hln : As.length = n) (hsz : ls.size = nL) (hst : st0 = As.reverse ++ rest) (hcat : (rest.map fun v => v.category).sum ≤ 8) (hf : cells ≤ R.cells ∧ slots ≤ R.slots) (hdg : decode cc pc = .ok (.invokestatic index, 3)) (hw2 : wr ++ w1 = w2)
    (kk : ∀ (H1 : Heap) (locs1 : List Loc), HS D A H0 w2 H1 locs1 → W p l e R s m args below meth c H1 locs1 cells slots Q (F0 m (pc + 3) ls rest)) : W p l e R s m args below meth c H locs cells slots Q (F0 m pc ls st0) := by
  refine va_callv (va_runS (As := As) (rest := rest) S (hM H.size) cw ⟨CtW.blind, CtW.pre hKN hS isC hnC hC⟩ rfl hln hsz hst (lv_room hcat) hdg hf) hS.2.2 (fun q _ h => va_free hS.2.1 hS.2.2 hA isC hC q h) (va_free hS.2.1 hS.2.2 hA isC hC) (fun u t H1 locs1 ht hvm hw hB hz1 hk1 hS1 => ?_)
  exact kk H1 locs1 ((hs_join hS isC isR hC hR hnR hdis hA hk1 ht hB hS1).cast hw2)
theorem kN_i {host : String} {rv : Int32} (S : CallFix p m c cc nL s args Ts own) (hKN : KN D tys s) (hM : CtI l D tys y wy rm As wc w1 rv) (cw : va_CN R s args own index y host bytes maxL ret wy rm 0 0 n ∧ (Cond.static y).before args s = true ∧ True) (hS : HS D A H0 ws H locs) (hA : ∀ q : Nat, H0.size ≤ q → A q) (isC isR : List Nat) (hnC : va_nd isC = true) (hC : isC.map (fun i => ws[i]?) = wc.map some) (hR : isR.map (fun i => ws[i]?) = wr.map some) (hnR : va_nd isR = true) (hdis : ∀ i ∈ isR, i ∉ isC) (hln : As.length = n) (hsz : ls.size = nL) (hst : st0 = As.reverse ++ rest) (hcat : (rest.map fun v => v.category).sum ≤ 8) (hf : cells ≤ R.cells ∧ slots ≤ R.slots) (hdg : decode cc pc = .ok (.invokestatic index, 3)) (hw2 : wr ++ w1 = w2)
    (kk : ∀ (H1 : Heap) (locs1 : List Loc), HS D A H0 w2 H1 locs1 → W p l e R s m args below meth c H1 locs1 cells slots Q (F0 m (pc + 3) ls (.int rv :: rest))) : W p l e R s m args below meth c H locs cells slots Q (F0 m pc ls st0) := by
  refine va_calli (va_runSN (As := As) (rest := rest) S (hM H.size) cw ⟨CtW.blind, CtW.pre hKN hS isC hnC hC⟩ rfl hln hsz hst (lv_room hcat) hdg hf) hS.2.2 (fun q _ h => va_free hS.2.1 hS.2.2 hA isC hC q h) (va_free hS.2.1 hS.2.2 hA isC hC) (fun r u t H1 locs1 ht hvm hw hB hz1 hk1 hS1 => ?_)
  subst hw
  exact kk H1 locs1 ((hs_join hS isC isR hC hR hnR hdis hA hk1 ht hB hS1).cast hw2)
theorem kN_v {host : String} (S : CallFix p m c cc nL s args Ts own) (hKN : KN D tys s) (hM : CtV l D tys y wy rm As wc w1) (cw : va_CN R s args own index y host bytes maxL ret wy rm 0 0 n ∧ (Cond.static y).before args s = true ∧ True) (hS : HS D A H0 ws H locs) (hA : ∀ q : Nat, H0.size ≤ q → A q) (isC isR : List Nat) (hnC : va_nd isC = true) (hC : isC.map (fun i => ws[i]?) = wc.map some) (hR : isR.map (fun i => ws[i]?) = wr.map some) (hnR : va_nd isR = true) (hdis : ∀ i ∈ isR, i ∉ isC) (hln : As.length = n) (hsz : ls.size = nL) (hst : st0 = As.reverse ++ rest) (hcat : (rest.map fun v => v.category).sum ≤ 8) (hf : cells ≤ R.cells ∧ slots ≤ R.slots) (hdg : decode cc pc = .ok (.invokestatic index, 3)) (hw2 : wr ++ w1 = w2)
    (kk : ∀ (H1 : Heap) (locs1 : List Loc), HS D A H0 w2 H1 locs1 → W p l e R s m args below meth c H1 locs1 cells slots Q (F0 m (pc + 3) ls rest)) : W p l e R s m args below meth c H locs cells slots Q (F0 m pc ls st0) := by
  refine va_callv (va_runSN (As := As) (rest := rest) S (hM H.size) cw ⟨CtW.blind, CtW.pre hKN hS isC hnC hC⟩ rfl hln hsz hst (lv_room hcat) hdg hf) hS.2.2 (fun q _ h => va_free hS.2.1 hS.2.2 hA isC hC q h) (va_free hS.2.1 hS.2.2 hA isC hC) (fun u t H1 locs1 ht hvm hw hB hz1 hk1 hS1 => ?_)
  exact kk H1 locs1 ((hs_join hS isC isR hC hR hnR hdis hA hk1 ht hB hS1).cast hw2)
/-- the words of a nest mate's static method, for a call -/
theorem cwN {rm : Room} {Ts ws' : List Cond} (n : Nat) (hKN : KN D tys s) (ht : ∀ w ∈ Ts, w.before args s = true) (hG : GoodIn Ts wy) (hw : wy = Cond.code y bytes maxL ret :: ws') (hrc : rm.cells = 0) (hrs : rm.slots = 0) {host : String} (hl : Cond.methodLinkNest own index y host ∈ nestL) (hini : Cond.initialized y.cls ∈ Ts) (hst : Cond.static y ∈ Ts)
    (hd : y.cls ≠ "java/lang/invoke/MethodHandle" ∧ y.cls ≠ "java/lang/invoke/VarHandle" ∧ (parseMethodDescriptor y.desc).map (fun d => d.parameters.length) = some n) (hR : rm.frames + 1 ≤ R.frames ∧ 8 + (maxL + 11) + rm.locals ≤ R.locals) : va_CN R s args own index y host bytes maxL ret wy rm 0 0 n ∧ (Cond.static y).before args s = true ∧ True :=
  ⟨va_cnB n ht hG hw hrc hrs (hKN.2 _ hl) (ht _ hini) hd hR, ht _ hst, trivial⟩
end
/-! ===== the functions of the methods: partial, a place outside of its row has no answer ===== -/
def st2 (T : Nat → Nat → Int32) (k i : Nat) (x : Int32) : Nat → Nat → Int32 := fun a => if a = k then upd (T a) i x else T a
def stJ (T : Nat → Nat → Int64) (k i : Nat) (x : Int64) : Nat → Nat → Int64 := fun a => if a = k then vp_updL (T a) i x else T a
def setc {α : Type} (T : Nat → α) (k : Nat) (f : α) : Nat → α := fun a => if a = k then f else T a
def rdA {α β : Type} (f : Nat → α) (n : Nat) (i : Int32) (k : α → Option β) : Option β := if i < 0 ∨ n ≤ i.toNatClampNeg then none else k (f i.toNatClampNeg)
def wrA {β : Type} (T : Nat → Nat → Int32) (c n : Nat) (i x : Int32) (k : (Nat → Nat → Int32) → Option β) : Option β := if i < 0 ∨ n ≤ i.toNatClampNeg then none else k (st2 T c i.toNatClampNeg x)
def wrJ {β : Type} (T : Nat → Nat → Int64) (c n : Nat) (i : Int32) (x : Int64) (k : (Nat → Nat → Int64) → Option β) : Option β := if i < 0 ∨ n ≤ i.toNatClampNeg then none else k (stJ T c i.toNatClampNeg x)
def wr1 {β : Type} (f : Nat → Int32) (n : Nat) (i x : Int32) (k : (Nat → Int32) → Option β) : Option β := if i < 0 ∨ n ≤ i.toNatClampNeg then none else k (upd f i.toNatClampNeg x)
def bnd {α β : Type} (x : α) (k : α → Option β) : Option β := k x
def nz {β : Type} (y : Int32) (k : Option β) : Option β := if y = 0 then none else k
def nzL {β : Type} (y : Int64) (k : Option β) : Option β := if y = 0 then none else k
def zb {β : Type} (x : Int32) (k : Option β) : Option β := if x = 0 ∨ x = 1 then k else none
def cal1 {α γ : Type} (x : Option α) (k : α → Option γ) : Option γ := x.bind k
def cal2 {α β γ : Type} (x : Option (α × β)) (k : α → β → Option γ) : Option γ := x.bind fun u => k u.1 u.2
def cal3 {α β δ γ : Type} (x : Option (α × β × δ)) (k : α → β → δ → Option γ) : Option γ := x.bind fun u => k u.1 u.2.1 u.2.2
def cal4 {α β δ ε γ : Type} (x : Option (α × β × δ × ε)) (k : α → β → δ → ε → Option γ) : Option γ := x.bind fun u => k u.1 u.2.1 u.2.2.1 u.2.2.2
def cal5 {α β δ ε ζ γ : Type} (x : Option (α × β × δ × ε × ζ)) (k : α → β → δ → ε → ζ → Option γ) : Option γ := x.bind fun u => k u.1 u.2.1 u.2.2.1 u.2.2.2.1 u.2.2.2.2
def cal6 {α β δ ε ζ η γ : Type} (x : Option (α × β × δ × ε × ζ × η)) (k : α → β → δ → ε → ζ → η → Option γ) : Option γ := x.bind fun u => k u.1 u.2.1 u.2.2.1 u.2.2.2.1 u.2.2.2.2.1 u.2.2.2.2.2
def FU : Nat := 5000
theorem rdA_e {α β : Type} {f : Nat → α} {n : Nat} {i : Int32} {k : α → Option β} {r : β} (h : rdA f n i k = some r) : vp_in i n ∧ ∃ x, x = f i.toNatClampNeg ∧ k x = some r := by
  unfold rdA at h
  by_cases c : i < 0 ∨ n ≤ i.toNatClampNeg
  · rw [if_pos c] at h; cases h
  · rw [if_neg c] at h; exact ⟨c, _, rfl, h⟩
theorem wrA_e {β : Type} {T : Nat → Nat → Int32} {c n : Nat} {i x : Int32} {k : (Nat → Nat → Int32) → Option β} {r : β} (h : wrA T c n i x k = some r) : vp_in i n ∧ ∃ T1, T1 = st2 T c i.toNatClampNeg x ∧ k T1 = some r := by
  unfold wrA at h
  by_cases c : i < 0 ∨ n ≤ i.toNatClampNeg
  · rw [if_pos c] at h; cases h
  · rw [if_neg c] at h; exact ⟨c, _, rfl, h⟩
theorem wrJ_e {β : Type} {T : Nat → Nat → Int64} {c n : Nat} {i : Int32} {x : Int64} {k : (Nat → Nat → Int64) → Option β} {r : β} (h : wrJ T c n i x k = some r) : vp_in i n ∧ ∃ T1, T1 = stJ T c i.toNatClampNeg x ∧ k T1 = some r := by
  unfold wrJ at h
  by_cases c : i < 0 ∨ n ≤ i.toNatClampNeg
  · rw [if_pos c] at h; cases h
  · rw [if_neg c] at h; exact ⟨c, _, rfl, h⟩
theorem wr1_e {β : Type} {f : Nat → Int32} {n : Nat} {i x : Int32} {k : (Nat → Int32) → Option β} {r : β} (h : wr1 f n i x k = some r) : vp_in i n ∧ ∃ T1, T1 = upd f i.toNatClampNeg x ∧ k T1 = some r := by
  unfold wr1 at h
  by_cases c : i < 0 ∨ n ≤ i.toNatClampNeg
  · rw [if_pos c] at h; cases h
  · rw [if_neg c] at h; exact ⟨c, _, rfl, h⟩
theorem bnd_e {α β : Type} {x : α} {k : α → Option β} {r : β} (h : bnd x k = some r) : ∃ z, z = x ∧ k z = some r := ⟨x, rfl, h⟩
theorem nz_e {β : Type} {y : Int32} {k : Option β} {r : β} (h : nz y k = some r) : ¬ y = 0 ∧ k = some r := by
  unfold nz at h
  by_cases c : y = 0
  · rw [if_pos c] at h; cases h
  · rw [if_neg c] at h; exact ⟨c, h⟩
theorem nzL_e {β : Type} {y : Int64} {k : Option β} {r : β} (h : nzL y k = some r) : ¬ y = 0 ∧ k = some r := by
  unfold nzL at h
  by_cases c : y = 0
  · rw [if_pos c] at h; cases h
  · rw [if_neg c] at h; exact ⟨c, h⟩
theorem zb_e {β : Type} {x : Int32} {k : Option β} {r : β} (h : zb x k = some r) : (x = 0 ∨ x = 1) ∧ k = some r := by
  unfold zb at h
  by_cases c : x = 0 ∨ x = 1
  · rw [if_pos c] at h; exact ⟨c, h⟩
  · rw [if_neg c] at h; cases h
theorem ifp {β : Type} {c : Prop} [Decidable c] {a b : Option β} {r : β} (h : (if c then a else b) = some r) (hc : c) : a = some r := by rw [if_pos hc] at h; exact h
theorem ifn {β : Type} {c : Prop} [Decidable c] {a b : Option β} {r : β} (h : (if c then a else b) = some r) (hc : ¬ c) : b = some r := by rw [if_neg hc] at h; exact h
theorem cal1_e {α γ : Type} {x : Option α} {k : α → Option γ} {r : γ} (h : cal1 x k = some r) : ∃ a, x = some a ∧ k a = some r := by
  cases x with
  | none => cases h
  | some u => exact ⟨u, rfl, h⟩
theorem cal2_e {α β γ : Type} {x : Option (α × β)} {k : α → β → Option γ} {r : γ} (h : cal2 x k = some r) : ∃ a b, x = some (a, b) ∧ k a b = some r := by
  cases x with
  | none => cases h
  | some u => exact ⟨u.1, u.2, rfl, h⟩
theorem cal3_e {α β δ γ : Type} {x : Option (α × β × δ)} {k : α → β → δ → Option γ} {r : γ} (h : cal3 x k = some r) : ∃ a b d, x = some (a, b, d) ∧ k a b d = some r := by
  cases x with
  | none => cases h
  | some u => exact ⟨u.1, u.2.1, u.2.2, rfl, h⟩
theorem cal4_e {α β δ ε γ : Type} {x : Option (α × β × δ × ε)} {k : α → β → δ → ε → Option γ} {r : γ} (h : cal4 x k = some r) : ∃ a b d f, x = some (a, b, d, f) ∧ k a b d f = some r := by
  cases x with
  | none => cases h
  | some u => exact ⟨u.1, u.2.1, u.2.2.1, u.2.2.2, rfl, h⟩
theorem cal5_e {α β δ ε ζ γ : Type} {x : Option (α × β × δ × ε × ζ)} {k : α → β → δ → ε → ζ → Option γ} {r : γ} (h : cal5 x k = some r) : ∃ a b d f g, x = some (a, b, d, f, g) ∧ k a b d f g = some r := by
  cases x with
  | none => cases h
  | some u => exact ⟨u.1, u.2.1, u.2.2.1, u.2.2.2.1, u.2.2.2.2, rfl, h⟩
theorem cal6_e {α β δ ε ζ η γ : Type} {x : Option (α × β × δ × ε × ζ × η)} {k : α → β → δ → ε → ζ → η → Option γ} {r : γ} (h : cal6 x k = some r) : ∃ a b d f g i, x = some (a, b, d, f, g, i) ∧ k a b d f g i = some r := by
  cases x with
  | none => cases h
  | some u => exact ⟨u.1, u.2.1, u.2.2.1, u.2.2.2.1, u.2.2.2.2.1, u.2.2.2.2.2, rfl, h⟩
