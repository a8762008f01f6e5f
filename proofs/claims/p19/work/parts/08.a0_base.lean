/-! ===== the law over two objects of the class: one object's cells, whatever lies beside them ===== -/
abbrev PC : Type := Nat × Nat × (Nat → Int32) × (Nat → Int32) × (Nat → Int32) × (Nat → Nat → Int32) × (Nat → Nat → Int64) × (Nat → Nat → Int32) × (Nat → Nat → Int32) × (Nat → Nat → Int32) × (Nat → Nat → Int64) × (Nat → Nat → Int32) × (Nat → Nat → Int32)
def WU (cI cJ : ClassId) (a : Nat → Nat) (u : PC) : va_W := WP cI cJ a u.1 u.2.1 u.2.2.1 u.2.2.2.1 u.2.2.2.2.1 u.2.2.2.2.2.1 u.2.2.2.2.2.2.1 u.2.2.2.2.2.2.2.1 u.2.2.2.2.2.2.2.2.1 u.2.2.2.2.2.2.2.2.2.1 u.2.2.2.2.2.2.2.2.2.2.1 u.2.2.2.2.2.2.2.2.2.2.2.1 u.2.2.2.2.2.2.2.2.2.2.2.2
def okU (Z : AS) (u : PC) : Prop := okA Z ∧ CSt Z u.2.2.1 u.2.2.2.1 u.2.2.2.2.1 u.2.2.2.2.2.2.2.2.2.2.2.1 u.2.2.2.2.2.1 u.2.2.2.2.2.2.1
theorem TBL_SWc {c : Cond} {own : String} {idx : Nat} {y : MethodName} {by_ : ByteArray} {n : Nat} {ret : Option FieldType} {hh : List (Nat × Nat × Nat × Nat)} (h1 : Cond.methodLink own idx y ∈ TBL) (h2 : Cond.static y ∈ TBL) (h3 : Cond.initialized y.cls ∈ TBL) (h5 : Cond.codeWith y by_ n ret hh ∈ TBL) : GoodIn (c :: TBL) (va_wsS own idx y (Cond.codeWith y by_ n ret hh :: TBL)) :=
  fun w h => ⟨List.mem_cons_of_mem _ (TBL_SW h1 h2 h3 h5 w h).1, (TBL_SW h1 h2 h3 h5 w h).2⟩
theorem TBL_V0 {own : String} {idx : Nat} {C : String} {y : MethodName} {by_ : ByteArray} {n : Nat} {ret : Option FieldType} (h1 : Cond.methodLink own idx y ∈ TBL) (h2 : Cond.instanceMethod y ∈ TBL) (h3 : Cond.selects C y y ∈ TBL) (h4 : Cond.initialized C ∈ TBL) (h5 : Cond.code y by_ n ret ∈ TBL) : GoodIn TBL (wsV own idx C y (Cond.code y by_ n ret :: TBL)) := by
  have h9 : ∀ w ∈ wsV own idx C y (Cond.code y by_ n ret :: TBL), w ∈ TBL := by
    intro w h
    unfold wsV at h
    simp only [List.mem_append, List.mem_cons, List.not_mem_nil, or_false] at h
    rcases h with (rfl | rfl | rfl | rfl) | rfl | h <;> assumption
  exact fun w h => ⟨h9 w h, good_of_word (TBL_good w (h9 w h))⟩
theorem TBL_S0 {own : String} {idx : Nat} {y : MethodName} {by_ : ByteArray} {n : Nat} {ret : Option FieldType} (h1 : Cond.methodLink own idx y ∈ TBL) (h2 : Cond.static y ∈ TBL) (h3 : Cond.initialized y.cls ∈ TBL) (h5 : Cond.code y by_ n ret ∈ TBL) : GoodIn TBL (va_wsS own idx y (Cond.code y by_ n ret :: TBL)) := by
  have h9 : ∀ w ∈ va_wsS own idx y (Cond.code y by_ n ret :: TBL), w ∈ TBL := by
    intro w h
    unfold va_wsS at h
    simp only [List.mem_append, List.mem_cons, List.not_mem_nil, or_false] at h
    rcases h with (rfl | rfl | rfl) | rfl | h <;> assumption
  exact fun w h => ⟨h9 w h, good_of_word (TBL_good w (h9 w h))⟩
/-! places in two worlds, one behind the other -/
theorem map_tail (w1 w2 : va_W) : (List.range' w1.length w2.length).map (fun i => (w1 ++ w2)[i]?) = w2.map some := by
  apply List.ext_getElem?
  intro i
  rw [List.getElem?_map, List.getElem?_map]
  rcases Nat.lt_or_ge i w2.length with q | q
  · rw [List.getElem?_eq_getElem (by rw [List.length_range']; exact q), List.getElem_range']
    simp only [Option.map_some, Nat.one_mul]
    rw [List.getElem?_append_right (Nat.le_add_right _ _), Nat.add_sub_cancel_left, List.getElem?_eq_getElem q]; rfl
  · rw [List.getElem?_eq_none (by rw [List.length_range']; exact q), List.getElem?_eq_none q]; rfl
theorem map_head {w1 w2 wB : va_W} (is : List Nat) {n : Nat} (hn : w1.length = n) (hb : ∀ i ∈ is, i < n) (hs : is.map (fun i => w1[i]?) = wB.map some) : is.map (fun i => (w1 ++ w2)[i]?) = wB.map some := by
  rw [← hs]
  apply List.map_congr_left
  intro i hi
  exact List.getElem?_append_left (by rw [hn]; exact hb i hi)
theorem nd_range' : ∀ (k n : Nat), va_nd (List.range' n k) = true
  | 0, _ => rfl
  | k + 1, n => by
    rw [List.range'_succ]
    show (decide (n ∉ List.range' (n + 1) k) && va_nd (List.range' (n + 1) k)) = true
    rw [nd_range' k (n + 1), Bool.and_true, decide_eq_true_eq]
    intro h
    obtain ⟨i, h1, h2⟩ := List.mem_range'.mp h
    omega
theorem nd_app : ∀ {is : List Nat} (n k : Nat), va_nd is = true → (∀ i ∈ is, i < n) → va_nd (is ++ List.range' n k) = true
  | [], n, k, _, _ => nd_range' k n
  | a :: is, n, k, h, hb => by
    change (decide (a ∉ is) && va_nd is) = true at h
    rw [Bool.and_eq_true, decide_eq_true_eq] at h
    show (decide (a ∉ is ++ List.range' n k) && va_nd (is ++ List.range' n k)) = true
    rw [Bool.and_eq_true, decide_eq_true_eq]
    refine ⟨fun z => ?_, nd_app n k h.2 (fun i hi => hb i (List.mem_cons_of_mem _ hi))⟩
    rcases List.mem_append.mp z with z | z
    · exact h.1 z
    · obtain ⟨i, -, h2⟩ := List.mem_range'.mp z
      have := hb a List.mem_cons_self
      omega
theorem fr_R {w ws2 wr0 : va_W} (is : List Nat) {n : Nat} (hn : w.length = n) (hb : ∀ i ∈ is, i < n) (hs : is.map (fun i => w[i]?) = wr0.map some) : (is ++ List.range' n ws2.length).map (fun i => (w ++ ws2)[i]?) = (wr0 ++ ws2).map some := by
  rw [List.map_append, List.map_append, map_head is hn hb hs, ← hn, map_tail]
theorem fr_dis {is isC : List Nat} {n k : Nat} (h1 : ∀ i ∈ is, i ∉ isC) (h2 : ∀ i ∈ isC, i < n) : ∀ i ∈ is ++ List.range' n k, i ∉ isC := by
  intro i hi hc
  rcases List.mem_append.mp hi with z | z
  · exact h1 i z hc
  · obtain ⟨j, -, h3⟩ := List.mem_range'.mp z
    have := h2 i hc
    omega
theorem HS.swap {D : va_G} {A : Nat → Prop} {H0 : Heap} {w1 w2 : va_W} {H : Heap} {locs : List Loc} (h : HS D A H0 (w1 ++ w2) H locs) : HS D A H0 (w2 ++ w1) H locs := by
  refine h.sub (List.range' w1.length w2.length ++ List.range' 0 w1.length) ?_ ?_
  · have key : ∀ (k n m : Nat), n ≤ m → va_nd (List.range' m k ++ List.range' 0 n) = true := by
      intro k n
      induction k with
      | zero => intro m _; exact nd_range' n 0
      | succ k ih =>
        intro m hm
        rw [List.range'_succ]
        show (decide (m ∉ List.range' (m + 1) k ++ List.range' 0 n) && va_nd (List.range' (m + 1) k ++ List.range' 0 n)) = true
        rw [ih (m + 1) (by omega), Bool.and_true, decide_eq_true_eq]
        intro z
        rcases List.mem_append.mp z with z | z
        · obtain ⟨i, h1, h2⟩ := List.mem_range'.mp z; omega
        · obtain ⟨i, h1, h2⟩ := List.mem_range'.mp z; omega
    exact key _ _ _ (Nat.le_refl _)
  · rw [List.map_append, List.map_append, map_tail]
    congr 1
    apply List.ext_getElem?
    intro i
    rw [List.getElem?_map, List.getElem?_map]
    rcases Nat.lt_or_ge i w1.length with q | q
    · rw [List.getElem?_eq_getElem (by rw [List.length_range']; exact q), List.getElem_range']
      simp only [Option.map_some, Nat.one_mul, Nat.zero_add]
      rw [List.getElem?_append_left q, List.getElem?_eq_getElem q]; rfl
    · rw [List.getElem?_eq_none (by rw [List.length_range']; exact q), List.getElem?_eq_none q]; rfl
theorem HS.head {D : va_G} {A : Nat → Prop} {H0 : Heap} {wA wB ws2 : va_W} {H : Heap} {locs : List Loc} (h : HS D A H0 (wA ++ ws2) H locs) (is : List Nat) {n : Nat} (hn : wA.length = n) (hd : va_nd is = true) (hb : ∀ i ∈ is, i < n) (hs : is.map (fun i => wA[i]?) = wB.map some) : HS D A H0 (wB ++ ws2) H locs :=
  h.sub (is ++ List.range' n ws2.length) (nd_app _ _ hd hb) (fr_R is hn hb hs)
/-- behind a call: the caller's other cells, what lies beside, the callee's cells: in order again -/
theorem HS.fix {D : va_G} {A : Nat → Prop} {H0 : Heap} {wr0 ws2 w1 wB : va_W} {H : Heap} {locs : List Loc} (h : HS D A H0 ((wr0 ++ ws2) ++ w1) H locs) (is : List Nat) {n : Nat} (hn : (w1 ++ wr0).length = n) (hd : va_nd is = true) (hb : ∀ i ∈ is, i < n) (hs : is.map (fun i => (w1 ++ wr0)[i]?) = wB.map some) : HS D A H0 (wB ++ ws2) H locs := by
  have h1 := h.swap
  rw [← List.append_assoc] at h1
  exact h1.head is hn hd hb hs
/-! contracts of the law's methods -/
/-- returns rv, the cells w0 then hold w1 u, where ok u -/
def CtU {U : Type} (l : Launch) (D : va_G) (tys : List (ClassId × FieldType)) (y : MethodName) (wy : List Cond) (rm : Room) (As : List Value) (w0 : va_W) (w1 : U → va_W) (ok : U → Prop) (rv : Int32) (mc ms : Nat) : Prop :=
  ∀ (sz : Nat), vx_Met l y wy rm (va_Pc As (CtWX sz D tys w0))
    (va_Qi (fun (r : Int32) (u : U) => r = rv ∧ ok u) (fun u t => va_P D vwCl (w1 u) t.heap ∧ va_D (va_A w0 sz) (w1 u)) (va_A w0 sz))
    (vx_X (fun (_ : Unit) => False) (fun _ _ _ => False) (va_A w0 sz)) mc ms (va_A w0 sz)
theorem CtU.of {U : Type} {l : Launch} {D : va_G} {tys : List (ClassId × FieldType)} {y : MethodName} {wy : List Cond} {rm : Room} {As : List Value} {w0 : va_W} {w1 : U → va_W} {ok : U → Prop} {rv : Int32} {mc ms : Nat} {cc : ByteArray} {maxL : Nat} {hh : List (Nat × Nat × Nat × Nat)} (hyc : y.cls = RL) (hy : plainName y.cls = true) (hw : wy = Cond.codeWith y cc maxL (some .int) hh :: TBL) (hlen : (lg_sl As).length ≤ maxL)
    (body : ∀ (p : Program) (e : Env) (s : State) (m : MethodId) (args : Array Value) (below : List Frame) (meth : Method) (c : Code) (A : Nat → Prop) (H0 : Heap) (Q : State → Prop) (ls : Array Slot), Cx p s m c args cc maxL wy RL D tys A H0 → c.exceptionTable.toList = tableOf hh → EXW s → EXZ A s H0 → HS D A H0 w0 H0 [] → lv_has ls maxL (lv_args 0 As) →
      (∀ (H : Heap) (locs : List Loc) (pc : Nat) (ls : Array Slot) (r : Int32) (u : U), r = rv → ok u → HS D A H0 (w1 u) H locs → decode cc pc = .ok (.ireturn, 1) → W p l e rm s m args below meth c H locs mc ms Q (F0 m pc ls [.int r])) →
      W p l e rm s m args below meth c H0 [] 0 0 Q (F0 m 0 ls [])) : CtU l D tys y wy rm As w0 w1 ok rv mc ms := by
  intro sz
  refine vx_ofWH (cc := cc) (maxL := maxL) (ret := some .int) (hh := hh) hy hw ?_
  intro p e s m args below meth c s₁ B hml hv
  obtain ⟨rfl, ⟨hsz, hP, hK, hD0⟩, hE, hZ⟩ := hv
  have hlocks := B.notSynchronized
  subst hsz
  rw [lg_entry_eq]
  have hown := findClass_of_methodNamed B.named
  rw [hyc] at hown
  have hts := atoms_spec (ws := wy) B.pre
  have htab := vx_table (x := y) B (hts (Cond.codeWith y cc maxL (some .int) hh) (by rw [hw]; exact List.mem_cons_self))
  refine body p e s m _ below meth c (va_A w0 s.heap.size) s.heap _ _ ⟨⟨B.exec, B.bytes, hml, hown, hts⟩, hK, fun q h => Or.inr h⟩ htab hE hZ ⟨hP, hD0.self, va_S.rf⟩ (lv_entry As hlen) ?_
  intro H locs pc ls r u hr ho hS hdg
  refine vx_ret ?_
  exact W.iret B.exec B.bytes B.returns (fun t ht hW => ⟨⟨r, u, rfl, ⟨hr, ho⟩, by rw [ht]; exact hS.1, hS.2.1⟩, hS.2.2.F ht⟩) hS.2.2.2.2 hdg
/-- .. of a method without handlers -/
def CtM {U : Type} (l : Launch) (D : va_G) (tys : List (ClassId × FieldType)) (y : MethodName) (wy : List Cond) (rm : Room) (As : List Value) (w0 : va_W) (w1 : U → va_W) (ok : U → Prop) (rv : Int32) (mc ms : Nat) : Prop :=
  ∀ (sz : Nat), Met l y wy rm (va_Pc As (CtWX sz D tys w0))
    (va_Qi (fun (r : Int32) (u : U) => r = rv ∧ ok u) (fun u t => va_P D vwCl (w1 u) t.heap ∧ va_D (va_A w0 sz) (w1 u)) (va_A w0 sz)) mc ms (va_A w0 sz)
theorem CtM.ofI {U : Type} {l : Launch} {D : va_G} {tys : List (ClassId × FieldType)} {y : MethodName} {wy ws' : List Cond} {rm : Room} {As : List Value} {w0 : va_W} {w1 : U → va_W} {ok : U → Prop} {rv : Int32} {mc ms : Nat} {cc : ByteArray} {maxL : Nat} (hyc : y.cls = RL) (hy : plainName y.cls = true) (hw : wy = Cond.code y cc maxL (some .int) :: ws') (hlen : (lg_sl As).length ≤ maxL)
    (body : ∀ (p : Program) (e : Env) (s : State) (m : MethodId) (args : Array Value) (below : List Frame) (meth : Method) (c : Code) (A : Nat → Prop) (H0 : Heap) (Q : State → Prop) (ls : Array Slot), Cx p s m c args cc maxL wy RL D tys A H0 → EXW s → EXZ A s H0 → HS D A H0 w0 H0 [] → lv_has ls maxL (lv_args 0 As) →
      (∀ (H : Heap) (locs : List Loc) (pc : Nat) (ls : Array Slot) (r : Int32) (u : U), r = rv → ok u → HS D A H0 (w1 u) H locs → decode cc pc = .ok (.ireturn, 1) → W p l e rm s m args below meth c H locs mc ms Q (F0 m pc ls [.int r])) →
      W p l e rm s m args below meth c H0 [] 0 0 Q (F0 m 0 ls [])) : CtM l D tys y wy rm As w0 w1 ok rv mc ms := by
  intro sz
  refine Met.ofW (cc := cc) (maxL := maxL) (ret := some .int) hy hw ?_
  intro p e s m args below meth c s₁ B hml hv
  obtain ⟨rfl, ⟨hsz, hP, hK, hD0⟩, hE, hZ⟩ := hv
  have hlocks := B.notSynchronized
  subst hsz
  rw [lg_entry_eq]
  have hown := findClass_of_methodNamed B.named
  rw [hyc] at hown
  refine body p e s m _ below meth c (va_A w0 s.heap.size) s.heap _ _ ⟨⟨B.exec, B.bytes, hml, hown, atoms_spec (ws := wy) B.pre⟩, hK, fun q h => Or.inr h⟩ hE hZ ⟨hP, hD0.self, va_S.rf⟩ (lv_entry As hlen) ?_
  intro H locs pc ls r u hr ho hS hdg
  exact W.iret B.exec B.bytes B.returns (fun t ht hW => ⟨⟨r, u, rfl, ⟨hr, ho⟩, by rw [ht]; exact hS.1, hS.2.1⟩, hS.2.2.F ht⟩) hS.2.2.2.2 hdg
theorem CtM.ofZ {U : Type} {l : Launch} {D : va_G} {tys : List (ClassId × FieldType)} {y : MethodName} {wy ws' : List Cond} {rm : Room} {As : List Value} {w0 : va_W} {w1 : U → va_W} {ok : U → Prop} {rv : Int32} {mc ms : Nat} {cc : ByteArray} {maxL : Nat} (hyc : y.cls = RL) (hy : plainName y.cls = true) (hw : wy = Cond.code y cc maxL (some .boolean) :: ws') (hlen : (lg_sl As).length ≤ maxL) (h01 : rv = 0 ∨ rv = 1)
    (body : ∀ (p : Program) (e : Env) (s : State) (m : MethodId) (args : Array Value) (below : List Frame) (meth : Method) (c : Code) (A : Nat → Prop) (H0 : Heap) (Q : State → Prop) (ls : Array Slot), Cx p s m c args cc maxL wy RL D tys A H0 → EXW s → EXZ A s H0 → HS D A H0 w0 H0 [] → lv_has ls maxL (lv_args 0 As) →
      (∀ (H : Heap) (locs : List Loc) (pc : Nat) (ls : Array Slot) (r : Int32) (u : U), r = rv → ok u → HS D A H0 (w1 u) H locs → decode cc pc = .ok (.ireturn, 1) → W p l e rm s m args below meth c H locs mc ms Q (F0 m pc ls [.int r])) →
      W p l e rm s m args below meth c H0 [] 0 0 Q (F0 m 0 ls [])) : CtM l D tys y wy rm As w0 w1 ok rv mc ms := by
  intro sz
  refine Met.ofW (cc := cc) (maxL := maxL) (ret := some .boolean) hy hw ?_
  intro p e s m args below meth c s₁ B hml hv
  obtain ⟨rfl, ⟨hsz, hP, hK, hD0⟩, hE, hZ⟩ := hv
  have hlocks := B.notSynchronized
  subst hsz
  rw [lg_entry_eq]
  have hown := findClass_of_methodNamed B.named
  rw [hyc] at hown
  refine body p e s m _ below meth c (va_A w0 s.heap.size) s.heap _ _ ⟨⟨B.exec, B.bytes, hml, hown, atoms_spec (ws := wy) B.pre⟩, hK, fun q h => Or.inr h⟩ hE hZ ⟨hP, hD0.self, va_S.rf⟩ (lv_entry As hlen) ?_
  intro H locs pc ls r u hr ho hS hdg
  subst hr
  have hn : narrow .boolean (.int r) = .int r := by rcases h01 with h | h <;> subst h <;> decide
  exact W.zret B.exec B.bytes B.returns hn (fun t ht hW => ⟨⟨r, u, rfl, ⟨rfl, ho⟩, by rw [ht]; exact hS.1, hS.2.1⟩, hS.2.2.F ht⟩) hS.2.2.2.2 hdg
section
variable {p : Program} {l : Launch} {e : Env} {R : Room} {s : State} {m : MethodId} {args : Array Value} {below : List Frame} {meth : Method} {c : Code} {H H0 : Heap} {locs : List Loc} {cells slots mc ms : Nat} {Q : State → Prop} {cc : ByteArray} {pc : Nat} {ls : Array Slot} {rest : List Value} {D : va_G} {A : Nat → Prop} {wc ws2 : va_W} {tys : List (ClassId × FieldType)} {Ts wy : List Cond} {own : String} {nL n maxL index : Nat} {y : MethodName} {rm : Room} {bytes : ByteArray} {ret : Option FieldType} {As st0 : List Value}
theorem w_dis (n k : Nat) : ∀ i ∈ List.range' n k, i ∉ List.range' 0 n := by
  intro i h1 h2
  obtain ⟨x, -, e1⟩ := List.mem_range'.mp h1
  obtain ⟨y, h3, e2⟩ := List.mem_range'.mp h2
  omega
theorem w_all (w ws2 : va_W) : (List.range' 0 w.length).map (fun i => (w ++ ws2)[i]?) = w.map some := by
  apply List.ext_getElem?
  intro i
  rw [List.getElem?_map, List.getElem?_map]
  rcases Nat.lt_or_ge i w.length with q | q
  · rw [List.getElem?_eq_getElem (by rw [List.length_range']; exact q), List.getElem_range']
    simp only [Option.map_some, Nat.one_mul, Nat.zero_add]
    rw [List.getElem?_append_left q, List.getElem?_eq_getElem q]; rfl
  · rw [List.getElem?_eq_none (by rw [List.length_range']; exact q), List.getElem?_eq_none q]; rfl
/-- a call with all the cells ahead of ws2 -/
theorem kU {U : Type} {w1 : U → va_W} {ok : U → Prop} {rv : Int32} {hh : List (Nat × Nat × Nat × Nat)} (S : CallFix p m c cc nL s args Ts own) (hKN : KN D tys s) (hE : EXW s) (hZ : EXZ A s H0) (hM : CtU l D tys y wy rm As wc w1 ok rv mc ms) (cw : vx_CSW R s args own index y bytes maxL ret hh wy rm mc ms n) (hS : HS D A H0 (wc ++ ws2) H locs) (hA : ∀ q : Nat, H0.size ≤ q → A q) (hln : As.length = n) (hsz : ls.size = nL) (hst : st0 = As.reverse ++ rest) (hcat : (rest.map fun v => v.category).sum ≤ 8) (hf : cells + mc ≤ R.cells ∧ slots + ms ≤ R.slots) (hdg : decode cc pc = .ok (.invokestatic index, 3))
    (kk : ∀ (H1 : Heap) (locs1 : List Loc) (u : U), ok u → HS D A H0 (w1 u ++ ws2) H1 locs1 → W p l e R s m args below meth c H1 locs1 (cells + mc) (slots + ms) Q (F0 m (pc + 3) ls (.int rv :: rest))) : W p l e R s m args below meth c H locs cells slots Q (F0 m pc ls st0) := by
  refine vx_calli (vx_runSX (As := As) (rest := rest) S (hM H.size) cw ⟨CtWX.blind, CtWX.pre hKN hE hZ hS hA (List.range' 0 wc.length) (nd_range' _ _) (w_all wc ws2)⟩ rfl hln hsz hst (lv_room hcat) hdg hf) hS.2.2 (fun q _ h => va_free hS.2.1 hS.2.2 hA _ (w_all wc ws2) q h) (va_free hS.2.1 hS.2.2 hA _ (w_all wc ws2)) (fun q _ h => va_free hS.2.1 hS.2.2 hA _ (w_all wc ws2) q h) (fun E ce q9 u t H1 locs1 ht hvm hx hB hz1 hk1 hS1 hce hcv hcl => hx.elim) (fun r u t H1 locs1 ht hvm hw hB hz1 hk1 hS1 => ?_)
  obtain ⟨h0, h2⟩ := hw
  subst h0
  exact kk H1 locs1 u h2 (hs_join hS (List.range' 0 wc.length) (List.range' wc.length ws2.length) (w_all wc ws2) (map_tail wc ws2) (nd_range' _ _) (w_dis _ _) hA hk1 ht hB hS1).swap
theorem kM {U : Type} {w1 : U → va_W} {ok : U → Prop} {rv : Int32} (S : CallFix p m c cc nL s args Ts own) (hKN : KN D tys s) (hE : EXW s) (hZ : EXZ A s H0) (hM : CtM l D tys y wy rm As wc w1 ok rv mc ms) (cw : CallB R s args own index y bytes maxL ret wy rm mc ms n ∧ (Cond.static y).before args s = true) (hS : HS D A H0 (wc ++ ws2) H locs) (hA : ∀ q : Nat, H0.size ≤ q → A q) (hln : As.length = n) (hsz : ls.size = nL) (hst : st0 = As.reverse ++ rest) (hcat : (rest.map fun v => v.category).sum ≤ 8) (hf : cells + mc ≤ R.cells ∧ slots + ms ≤ R.slots) (hdg : decode cc pc = .ok (.invokestatic index, 3))
    (kk : ∀ (H1 : Heap) (locs1 : List Loc) (u : U), ok u → HS D A H0 (w1 u ++ ws2) H1 locs1 → W p l e R s m args below meth c H1 locs1 (cells + mc) (slots + ms) Q (F0 m (pc + 3) ls (.int rv :: rest))) : W p l e R s m args below meth c H locs cells slots Q (F0 m pc ls st0) := by
  refine va_calli (va_runS (As := As) (rest := rest) S (hM H.size) cw ⟨CtWX.blind, CtWX.pre hKN hE hZ hS hA (List.range' 0 wc.length) (nd_range' _ _) (w_all wc ws2)⟩ rfl hln hsz hst (lv_room hcat) hdg hf) hS.2.2 (fun q _ h => va_free hS.2.1 hS.2.2 hA _ (w_all wc ws2) q h) (va_free hS.2.1 hS.2.2 hA _ (w_all wc ws2)) (fun r u t H1 locs1 ht hvm hw hB hz1 hk1 hS1 => ?_)
  obtain ⟨h0, h2⟩ := hw
  subst h0
  exact kk H1 locs1 u h2 (hs_join hS (List.range' 0 wc.length) (List.range' wc.length ws2.length) (w_all wc ws2) (map_tail wc ws2) (nd_range' _ _) (w_dis _ _) hA hk1 ht hB hS1).swap
/-- a call of a method that has no cells -/
theorem kS0 {rv : Int32} (S : CallFix p m c cc nL s args Ts own) (hKN : KN D tys s) (hM : CtI l D tys y wy rm As [] [] rv) (cw : CallB R s args own index y bytes maxL ret wy rm 0 0 n ∧ (Cond.static y).before args s = true) (hS : HS D A H0 ws2 H locs) (hA : ∀ q : Nat, H0.size ≤ q → A q) (hln : As.length = n) (hsz : ls.size = nL) (hst : st0 = As.reverse ++ rest) (hcat : (rest.map fun v => v.category).sum ≤ 8) (hf : cells ≤ R.cells ∧ slots ≤ R.slots) (hdg : decode cc pc = .ok (.invokestatic index, 3))
    (kk : ∀ (H1 : Heap) (locs1 : List Loc), HS D A H0 ws2 H1 locs1 → W p l e R s m args below meth c H1 locs1 cells slots Q (F0 m (pc + 3) ls (.int rv :: rest))) : W p l e R s m args below meth c H locs cells slots Q (F0 m pc ls st0) := by
  refine kS_i (wr := ws2) (w2 := ws2) S hKN hM cw hS hA [] (List.range' 0 ws2.length) rfl rfl ?_ (nd_range' _ _) (fun _ _ h => absurd h List.not_mem_nil) hln hsz hst hcat hf hdg (List.append_nil _) kk
  have := w_all ws2 []
  rw [List.append_nil] at this
  exact this
end
/-! the law's remainder -/
abbrev wtL_low : List Cond := Cond.code yL_low cL_low 2 (some .int) :: TBL
