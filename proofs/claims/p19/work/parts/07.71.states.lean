/-! ===== the second reading: cards up, won, safe, the moves there are ===== -/
/-- the k-th of all moves that can be written, in their order -/
def allB (R : Nat → Nat) (P : Pos) (k : Nat) : Bool := canB (k / 144) (k / 16 % 9) (k % 16 + 1) && legal R P (k / 144) (k / 16 % 9) (k % 16 + 1)
def allC (k : Nat) : Nat := codeN (k / 144) (k / 16 % 9) (k % 16 + 1)
theorem all_triples : (List.range 10).flatMap (fun f => (List.range 9).flatMap (fun t => (List.range' 1 16).map (fun n => (f, t, n)))) = (List.range 1440).map (fun k => (k / 144, k / 16 % 9, k % 16 + 1)) := by decide +kernel
theorem mvs_all (R : Nat → Nat) (P : Pos) : mvs R P = ((List.range 1440).filter (allB R P)).map allC := by
  have h1 : ∀ f t, mvFT R P f t = (((List.range' 1 16).map (fun n => (f, t, n))).filter (fun z => canB z.1 z.2.1 z.2.2 && legal R P z.1 z.2.1 z.2.2)).map (fun z => codeN z.1 z.2.1 z.2.2) := by
    intro f t
    unfold mvFT
    rw [List.filter_map, List.map_map]; rfl
  have h2 : mvs R P = (((List.range 10).flatMap (fun f => (List.range 9).flatMap (fun t => (List.range' 1 16).map (fun n => (f, t, n))))).filter (fun z => canB z.1 z.2.1 z.2.2 && legal R P z.1 z.2.1 z.2.2)).map (fun z => codeN z.1 z.2.1 z.2.2) := by
    have h3 : ∀ f, mvFT R P f = fun t => (((List.range' 1 16).map (fun n => (f, t, n))).filter (fun z => canB z.1 z.2.1 z.2.2 && legal R P z.1 z.2.1 z.2.2)).map (fun z => codeN z.1 z.2.1 z.2.2) := fun f => funext (h1 f)
    unfold mvs mvF
    simp only [h3, List.filter_flatMap, List.map_flatMap]
  rw [h2, all_triples, List.filter_map, List.map_map]; rfl
/-! ===== the second reading: a position stored ===== -/
theorem deal_inv {R : Nat → Nat} (hR : RulesOk R) {mc x : Nat} (hm : mc < 2) : LayInv R (dealP R mc x) (cardsA R mc x) := by
  obtain ⟨D, -, hD⟩ := s_draw (mc := mc) (x := x) hm hR (fun _ _ => 0)
  obtain ⟨T, -, -, h⟩ := s_lay (r := fun k => nI (R k)) ⟨fun _ _ => rfl, hR⟩ hD (fun _ _ => 0)
  exact h
/-! ===== the second reading: which column stands ahead ===== -/
theorem cntB_mono {p q : Nat → Bool} : ∀ {n : Nat}, (∀ k, k < n → p k = true → q k = true) → cntB p n ≤ cntB q n
  | 0, _ => Nat.le_refl _
  | n + 1, h => by
    have h1 := cntB_mono (p := p) (q := q) (n := n) (fun k hk => h k (by omega))
    have h2 := h n (by omega)
    show cntB p n + (if p n = true then 1 else 0) ≤ cntB q n + (if q n = true then 1 else 0)
    by_cases z : p n = true
    · rw [if_pos z, if_pos (h2 z)]; omega
    · rw [if_neg z]; omega
theorem cntB_slt {p q : Nat → Bool} : ∀ {n k : Nat}, (∀ k, k < n → p k = true → q k = true) → k < n → p k = false → q k = true → cntB p n < cntB q n
  | n + 1, k, h, hk, e1, e2 => by
    show cntB p n + (if p n = true then 1 else 0) < cntB q n + (if q n = true then 1 else 0)
    by_cases y : k = n
    · subst y
      have h1 := cntB_mono (p := p) (q := q) (n := k) (fun k hk => h k (by omega))
      rw [if_neg (by rw [e1]; decide), if_pos e2]; omega
    · have h1 := cntB_slt (p := p) (q := q) (n := n) (k := k) (fun k hk => h k (by omega)) (by omega) e1 e2
      have h2 := h n (by omega)
      by_cases z : p n = true
      · rw [if_pos z, if_pos (h2 z)]; omega
      · rw [if_neg z]; omega
/-! ===== the second reading: what moves, moveAt, search and known tell ===== -/
theorem mvs_small {R : Nat → Nat} {P : Pos} {m : Nat} (h : m ∈ mvs R P) : m < 10000 := by
  obtain ⟨f, t, n, rfl, hf, ht, -, hn, -, -, -⟩ := mem_mvs h
  unfold codeN; omega
/-! ===== the second reading: what card tells ===== -/
def cardA (R : Nat → Nat) (P : Pos) (p d : Nat) : Int32 := if p < 5 then seenA P p d else if p = 8 then highA R P d else optI (P.1 p)[d]?
/-! ===== the second reading: what told tells ===== -/
def moneyA (P : Pos) (done undone : Nat) : Int32 := (nI 5 * nI (upN P) - nI done) - nI 2 * nI undone
def hidN (P : Pos) : Nat := P.2.1 0 + P.2.1 1 + P.2.1 2 + P.2.1 3 + P.2.1 4
def toldA (R : Nat → Nat) (P : Pos) (done undone : Nat) (older : Int32) (k : Nat) : Int32 :=
  if k = 0 then nI (upN P) else if k = 1 then nI done else if k = 2 then nI undone else if k = 3 then nI P.2.2.2 else if k = 4 then moneyA P done undone else if k = 5 then older + moneyA P done undone else if k = 6 then bi (wonB R P) else nI (hidN P)
/-! ===== the second reading: safe moves, one behind the other ===== -/
/-- the positions that safe moves lead to, at most n of them -/
def safeL (R : Nat → Nat) : Nat → Pos → List Pos
  | 0, _ => []
  | n + 1, P => match (List.range 8).find? (safeAt R P) with
    | none => []
    | some f => playP R P f 8 1 :: safeL R n (playP R P f 8 1)
/-! ===== the whole state: the next rules, the rules, all positions from the deal on, moves undone, money of older deals, machine and number of the deal ===== -/
abbrev AS : Type := (Nat → Nat) × (Nat → Nat) × List Pos × Nat × Int32 × Nat × Nat
def cur (past : List Pos) : Pos := past.getLast?.getD emptyP
def okA (A : AS) : Prop := RulesOk A.1 ∧ RulesOk A.2.1 ∧ 1 ≤ A.2.2.1.length ∧ A.2.2.1.length ≤ 201 ∧ (∀ P, P ∈ A.2.2.1 → WF A.2.1 P) ∧ A.2.2.1[0]? = some (dealP A.2.1 A.2.2.2.2.2.1 A.2.2.2.2.2.2) ∧ A.2.2.2.2.2.1 < 2 ∧ A.2.2.2.2.2.2 < 2147483648
theorem okA.curm {A : AS} (h : okA A) : cur A.2.2.1 ∈ A.2.2.1 := by
  have h1 := h.2.2.1
  unfold cur
  cases e : A.2.2.1.getLast? with
  | none => rw [List.getLast?_eq_none_iff] at e; rw [e] at h1; exact absurd h1 (by decide)
  | some P => exact List.mem_of_getLast? e
theorem okA.wf {A : AS} (h : okA A) : WF A.2.1 (cur A.2.2.1) := h.2.2.2.2.1 _ h.curm
theorem th_s (I : Nat → Nat → Int32) (x : Int32) : st2 I 0 0 x 0 0 = x := by rw [st2_s, if_pos ⟨rfl, rfl⟩]
def inB (v : Int32) (a b : Nat) : Bool := decide (nI a ≤ v) && decide (v ≤ nI b)
def nV (v : Int32) : Nat := v.toInt.toNat
theorem inB_nV {v : Int32} {a b : Nat} (ha : a < 2 ^ 31) (hb : b < 2 ^ 31) (h : inB v a b = true) : v = nI (nV v) ∧ a ≤ nV v ∧ nV v ≤ b := by
  unfold inB at h
  simp only [Bool.and_eq_true, decide_eq_true_eq, Int32.le_iff_toInt_le, nI_toInt ha, nI_toInt hb] at h
  unfold nV
  refine ⟨?_, by omega, by omega⟩
  apply Int32.toInt_inj.mp
  rw [nI_toInt (by omega)]; omega
/-! the rules of the next deals -/
def okDeck (N : Nat → Nat) (v1 v2 : Int32) : Bool := inB v1 1 4 && (inB v2 1 6 && (inB (v1 * v2) 2 16 && decide (nI (N 6) < v1 * v2)))
def setDeck (N : Nat → Nat) (v1 v2 : Int32) : Nat → Nat := fun k => if k = 0 then nV v1 else if k = 1 then nV v2 else N k
def aDeck (A : AS) (v1 v2 : Int32) : Nat × Int32 × AS := if okDeck A.1 v1 v2 = true then (0, v1 * v2, (setDeck A.1 v1 v2, A.2)) else (1, nI 0, A)
theorem okDeck_rules {N : Nat → Nat} (hN : RulesOk N) {v1 v2 : Int32} (h : okDeck N v1 v2 = true) : RulesOk (setDeck N v1 v2) ∧ v1 = nI (nV v1) ∧ v2 = nI (nV v2) := by
  unfold okDeck at h
  simp only [Bool.and_eq_true, decide_eq_true_eq] at h
  obtain ⟨h1, h2, h3, h4⟩ := h
  obtain ⟨e1, a1, b1⟩ := inB_nV (by omega) (by omega) h1
  obtain ⟨e2, a2, b2⟩ := inB_nV (by omega) (by omega) h2
  refine ⟨?_, e1, e2⟩
  have hp : nV v1 * nV v2 ≤ 4 * 6 := Nat.mul_le_mul b1 b2
  have e : v1 * v2 = nI (nV v1 * nV v2) := by rw [e1, e2, pk_mul, ← e1, ← e2]
  rw [e] at h3 h4
  obtain ⟨e3, a3, b3⟩ := inB_nV (by omega) (by omega) h3
  have e4 : nV (nI (nV v1 * nV v2)) = nV v1 * nV v2 := by unfold nV; rw [nI_toInt (by unfold nV at hp; omega)]; rfl
  rw [e4] at a3 b3
  unfold RulesOk at hN ⊢
  rw [Int32.lt_iff_toInt_lt, nI_toInt (by omega), nI_toInt (by omega)] at h4
  show 1 ≤ nV v1 ∧ nV v1 ≤ 4 ∧ 1 ≤ nV v2 ∧ nV v2 ≤ 6 ∧ 2 ≤ nV v1 * nV v2 ∧ nV v1 * nV v2 ≤ 16 ∧ 1 ≤ N 2 ∧ N 2 ≤ 5 ∧ N 3 ≤ 2 ∧ N 4 ≤ 2 ∧ N 5 ≤ 2 ∧ N 6 ≤ 8 ∧ N 6 < nV v1 * nV v2 ∧ N 7 ≤ 2 ∧ N 8 ≤ 1
  omega
/-! ===== the second reading: table and stock ===== -/
def okTable (v1 v2 v3 v4 : Int32) : Bool := inB v1 1 5 && (inB v2 0 2 && (inB v3 0 2 && inB v4 0 2))
def setTable (N : Nat → Nat) (v1 v2 v3 v4 : Int32) : Nat → Nat := fun k => if k = 2 then nV v1 else if k = 3 then nV v2 else if k = 4 then nV v3 else if k = 5 then nV v4 else N k
def aTable (A : AS) (v1 v2 v3 v4 : Int32) : Nat × Int32 × AS := if okTable v1 v2 v3 v4 = true then (0, nI 0, (setTable A.1 v1 v2 v3 v4, A.2)) else (1, nI 0, A)
theorem okTable_rules {N : Nat → Nat} (hN : RulesOk N) {v1 v2 v3 v4 : Int32} (h : okTable v1 v2 v3 v4 = true) : RulesOk (setTable N v1 v2 v3 v4) ∧ v1 = nI (nV v1) ∧ v2 = nI (nV v2) ∧ v3 = nI (nV v3) ∧ v4 = nI (nV v4) := by
  unfold okTable at h
  simp only [Bool.and_eq_true] at h
  obtain ⟨h1, h2, h3, h4⟩ := h
  obtain ⟨e1, a1, b1⟩ := inB_nV (by omega) (by omega) h1
  obtain ⟨e2, a2, b2⟩ := inB_nV (by omega) (by omega) h2
  obtain ⟨e3, a3, b3⟩ := inB_nV (by omega) (by omega) h3
  obtain ⟨e4, a4, b4⟩ := inB_nV (by omega) (by omega) h4
  refine ⟨?_, e1, e2, e3, e4⟩
  unfold RulesOk at hN ⊢
  show 1 ≤ N 0 ∧ N 0 ≤ 4 ∧ 1 ≤ N 1 ∧ N 1 ≤ 6 ∧ 2 ≤ N 0 * N 1 ∧ N 0 * N 1 ≤ 16 ∧ 1 ≤ nV v1 ∧ nV v1 ≤ 5 ∧ nV v2 ≤ 2 ∧ nV v3 ≤ 2 ∧ nV v4 ≤ 2 ∧ N 6 ≤ 8 ∧ N 6 < N 0 * N 1 ∧ N 7 ≤ 2 ∧ N 8 ≤ 1
  omega
def okStock (N : Nat → Nat) (v1 v2 : Int32) : Bool := inB v1 0 8 && (inB v2 0 2 && decide (v1 < nI (N 0 * N 1)))
def setStock (N : Nat → Nat) (v1 v2 : Int32) (b : Bool) : Nat → Nat := fun k => if k = 6 then nV v1 else if k = 7 then nV v2 else if k = 8 then (if b = true then 1 else 0) else N k
def aStock (A : AS) (v1 v2 : Int32) (b : Bool) : Nat × Int32 × AS := if okStock A.1 v1 v2 = true then (0, nI 0, (setStock A.1 v1 v2 b, A.2)) else (1, nI 0, A)
theorem bi_nI (b : Bool) : bi b = nI (if b = true then 1 else 0) := by cases b <;> rfl
theorem okStock_rules {N : Nat → Nat} (hN : RulesOk N) {v1 v2 : Int32} {b : Bool} (h : okStock N v1 v2 = true) : RulesOk (setStock N v1 v2 b) ∧ v1 = nI (nV v1) ∧ v2 = nI (nV v2) := by
  unfold okStock at h
  simp only [Bool.and_eq_true, decide_eq_true_eq] at h
  obtain ⟨h1, h2, h3⟩ := h
  obtain ⟨e1, a1, b1⟩ := inB_nV (by omega) (by omega) h1
  obtain ⟨e2, a2, b2⟩ := inB_nV (by omega) (by omega) h2
  refine ⟨?_, e1, e2⟩
  unfold RulesOk at hN ⊢
  rw [e1, Int32.lt_iff_toInt_lt, nI_toInt (by omega), nI_toInt (by omega)] at h3
  have hb : (if b = true then 1 else 0) ≤ 1 := by cases b <;> decide
  show 1 ≤ N 0 ∧ N 0 ≤ 4 ∧ 1 ≤ N 1 ∧ N 1 ≤ 6 ∧ 2 ≤ N 0 * N 1 ∧ N 0 * N 1 ≤ 16 ∧ 1 ≤ N 2 ∧ N 2 ≤ 5 ∧ N 3 ≤ 2 ∧ N 4 ≤ 2 ∧ N 5 ≤ 2 ∧ nV v1 ≤ 8 ∧ nV v1 < N 0 * N 1 ∧ nV v2 ≤ 2 ∧ (if b = true then 1 else 0) ≤ 1
  omega
/-! ===== the second reading: what is told ===== -/
theorem pos_nV {v : Int32} (h : ¬ v < nI 0) : v = nI (nV v) ∧ nV v < 2 ^ 31 := by
  rw [Int32.lt_iff_toInt_lt, nI_toInt (by omega)] at h
  have := Int32.toInt_lt v
  unfold nV
  refine ⟨Int32.toInt_inj.mp ?_, by omega⟩
  rw [nI_toInt (by omega)]; omega
def aMoves (A : AS) : Nat × Int32 × AS := (0, nI (mvs A.2.1 (cur A.2.2.1)).length, A)
def aMoveAt (A : AS) (v : Int32) : Nat × Int32 × AS := if v < nI 0 then (1, nI 0, A) else (0, optI (mvs A.2.1 (cur A.2.2.1))[nV v]?, A)
def okCard (v1 v2 : Int32) : Bool := inB v1 0 9 && decide (¬ v2 < nI 0)
def aCard (A : AS) (v1 v2 : Int32) : Nat × Int32 × AS := if okCard v1 v2 = true then (0, cardA A.2.1 (cur A.2.2.1) (nV v1) (nV v2), A) else (1, nI 0, A)
def aTold (A : AS) (v : Int32) : Nat × Int32 × AS := if inB v 0 7 = true then (0, toldA A.2.1 (cur A.2.2.1) (A.2.2.1.length - 1) A.2.2.2.1 A.2.2.2.2.1 (nV v), A) else (1, nI 0, A)
def aSearch (A : AS) (v : Int32) : Nat × Int32 × AS := if inB v 1 400 = true then (0, (searchA A.2.1 (nV v) (cur A.2.2.1)).1, A) else (1, nI 0, A)
def aKnown (A : AS) (v : Int32) : Nat × Int32 × AS := if inB v 1 400 = true then (0, nI (searchA A.2.1 (nV v) (cur A.2.2.1)).2.length, A) else (1, nI 0, A)
/-! ===== the second reading: deal, move, undo, safe ===== -/
theorem cur_one (P : Pos) : cur [P] = P := rfl
theorem cur_app (l : List Pos) (P : Pos) : cur (l ++ [P]) = P := by unfold cur; rw [List.getLast?_append]; rfl
def okDeal (v1 v2 : Int32) : Bool := inB v1 0 1 && inB v2 0 1000000
def aDeal (A : AS) (v1 v2 : Int32) : Nat × Int32 × AS := if okDeal v1 v2 = true then (0, nI (A.1 0 * A.1 1) - nI (A.1 6), (A.1, A.1, [dealP A.1 (nV v1) (nV v2)], 0, A.2.2.2.2.1 + moneyA (cur A.2.2.1) (A.2.2.1.length - 1) A.2.2.2.1, nV v1, nV v2)) else (1, nI 0, A)
theorem wf_dealP {R : Nat → Nat} (hR : RulesOk R) {mc x : Nat} (hm : mc < 2) : WF R (dealP R mc x) := wf_deal hR (deal_inv hR hm)
/-! ===== the second reading: move, undo, safe ===== -/
def okArg (v1 v2 v3 : Int32) : Bool := inB v1 0 9 && (decide (¬ v1 = nI 8) && (inB v2 0 8 && (decide (¬ v1 = v2) && (inB v3 1 16 && (decide (v3 = nI 1) || (decide (¬ nI 5 ≤ v1) && decide (¬ nI 5 ≤ v2)))))))
def okDo (A : AS) (v1 v2 v3 : Int32) : Bool := decide (A.2.2.1.length - 1 < 200) && legal A.2.1 (cur A.2.2.1) (nV v1) (nV v2) (nV v3)
def afterMove (A : AS) (v1 v2 v3 : Int32) : Pos := playP A.2.1 (cur A.2.2.1) (nV v1) (nV v2) (nV v3)
def aMove (A : AS) (v1 v2 v3 : Int32) : Nat × Int32 × AS :=
  if okArg v1 v2 v3 = true then (if okDo A v1 v2 v3 = true then (0, nI (upN (afterMove A v1 v2 v3)), (A.1, A.2.1, A.2.2.1 ++ [afterMove A v1 v2 v3], A.2.2.2)) else (2, nI 0, A)) else (1, nI 0, A)
theorem okArg_facts {v1 v2 v3 : Int32} (h : okArg v1 v2 v3 = true) : v1 = nI (nV v1) ∧ v2 = nI (nV v2) ∧ v3 = nI (nV v3) ∧ nV v1 < 10 ∧ nV v2 < 9 ∧ 1 ≤ nV v3 ∧ nV v3 ≤ 16 ∧ (nV v3 = 1 ∨ (nV v1 < 5 ∧ nV v2 < 5)) := by
  unfold okArg at h
  simp only [Bool.and_eq_true, Bool.or_eq_true, decide_eq_true_eq] at h
  obtain ⟨h1, -, h2, -, h3, h4⟩ := h
  obtain ⟨e1, a1, b1⟩ := inB_nV (by omega) (by omega) h1
  obtain ⟨e2, a2, b2⟩ := inB_nV (by omega) (by omega) h2
  obtain ⟨e3, a3, b3⟩ := inB_nV (by omega) (by omega) h3
  refine ⟨e1, e2, e3, by omega, by omega, a3, b3, ?_⟩
  rcases h4 with z | ⟨z1, z2⟩
  · left; rw [z]; unfold nV; rw [nI_toInt (by omega)]; rfl
  · right
    rw [e1, Int32.le_iff_toInt_le, nI_toInt (by omega), nI_toInt (by omega)] at z1
    rw [e2, Int32.le_iff_toInt_le, nI_toInt (by omega), nI_toInt (by omega)] at z2
    omega
theorem playP_wf {A : AS} (hA : okA A) {v1 v2 v3 : Int32} (h : okArg v1 v2 v3 = true) (hd : okDo A v1 v2 v3 = true) : WF A.2.1 (afterMove A v1 v2 v3) := by
  obtain ⟨e1, e2, e3, b1, b2, b3, b4, b5⟩ := okArg_facts h
  unfold okDo at hd
  rw [Bool.and_eq_true] at hd
  exact wf_play hA.wf hA.2.1 b3 b5 hd.2
theorem okA.push {A : AS} (hA : okA A) {P : Pos} (w : WF A.2.1 P) (h : A.2.2.1.length ≤ 200) : okA (A.1, A.2.1, A.2.2.1 ++ [P], A.2.2.2) := by
  refine ⟨hA.1, hA.2.1, ?_, ?_, fun Q hQ => ?_, ?_, hA.2.2.2.2.2.2⟩
  · show 1 ≤ (A.2.2.1 ++ [P]).length
    rw [List.length_append]; have := hA.2.2.1; omega
  · show (A.2.2.1 ++ [P]).length ≤ 201
    rw [List.length_append, List.length_singleton]; omega
  · rcases List.mem_append.mp hQ with z | z
    · exact hA.2.2.2.2.1 Q z
    · rw [List.mem_singleton] at z; rw [z]; exact w
  · show (A.2.2.1 ++ [P])[0]? = _
    rw [List.getElem?_append_left (by have := hA.2.2.1; omega)]; exact hA.2.2.2.2.2.1
def backN (A : AS) (v : Int32) : Nat := if A.2.2.1.length - 1 ≤ nV v then A.2.2.1.length - 1 else nV v
def aUndo (A : AS) (v : Int32) : Nat × Int32 × AS := if inB v 1 200 = true then (0, nI (backN A v), (A.1, A.2.1, A.2.2.1.take (A.2.2.1.length - 1 - backN A v + 1), A.2.2.2.1 + backN A v, A.2.2.2.2)) else (1, nI 0, A)
theorem cur_take (l : List Pos) {n : Nat} (h : n < l.length) {Q : Pos} (e : l[n]? = some Q) : cur (l.take (n + 1)) = Q := by
  unfold cur
  rw [List.getLast?_eq_getElem?, List.length_take, show min (n + 1) l.length - 1 = n by omega, List.getElem?_take, if_pos (by omega), e]; rfl
def safeA (A : AS) : List Pos := safeL A.2.1 (200 - (A.2.2.1.length - 1)) (cur A.2.2.1)
def aSafe (A : AS) : Nat × Int32 × AS := (0, nI (safeA A).length, (A.1, A.2.1, A.2.2.1 ++ safeA A, A.2.2.2))
theorem safeL_len (R : Nat → Nat) : ∀ (n : Nat) (P : Pos), (safeL R n P).length ≤ n
  | 0, _ => Nat.le_refl 0
  | n + 1, P => by
    show (match (List.range 8).find? (safeAt R P) with | none => [] | some f => playP R P f 8 1 :: safeL R n (playP R P f 8 1)).length ≤ n + 1
    cases (List.range 8).find? (safeAt R P) with
    | none => exact Nat.zero_le _
    | some f => exact Nat.succ_le_succ (safeL_len R n _)
theorem cur_safe {l : List Pos} (hl : 1 ≤ l.length) (cs : List Pos) : cur (l ++ cs) = (cur l :: cs).getLast (by simp) := by
  cases cs with
  | nil =>
    rw [List.append_nil]; rfl
  | cons c cs =>
    unfold cur
    rw [List.getLast?_append, List.getLast_cons (by simp), List.getLast?_eq_some_getLast (by simp)]; rfl
/-! ===== the second reading: hint ===== -/
def hintF (R : Nat → Nat) (P : Pos) (least : Int32) : List Nat → Int32
  | [] => -1
  | m :: r => if (searchA R 100 (playC R P m)).1 = least - nI 1 then nI m else hintF R P least r
def hintA (R : Nat → Nat) (P : Pos) : Int32 := if nI 1 ≤ (searchA R 100 P).1 then hintF R P (searchA R 100 P).1 (mvs R P) else -1
def aHint (A : AS) : Nat × Int32 × AS := (0, hintA A.2.1 (cur A.2.2.1), A)
/-! ===== the second reading: odds ===== -/
def tellsA (N : Nat → Nat) (mc b x : Nat) : Int32 := (searchA N b (dealP N mc x)).1
def oddsW (N : Nat → Nat) (mc b x : Nat) : Nat → Nat
  | 0 => 0
  | j + 1 => oddsW N mc b x j + (if tellsA N mc b (x + j) < nI 0 then 0 else 1)
def oddsL (N : Nat → Nat) (mc b x : Nat) : Nat → Nat
  | 0 => 0
  | j + 1 => oddsL N mc b x j + (if tellsA N mc b (x + j) = -1 then 1 else 0)
def okOdds (v1 v2 v3 v4 : Int32) : Bool := inB v1 0 1 && (inB v2 0 1000000 && (inB v3 1 8 && inB v4 1 200))
def aOdds (A : AS) (v1 v2 v3 v4 : Int32) : Nat × Int32 × AS := if okOdds v1 v2 v3 v4 = true then (0, nI (10 * oddsW A.1 (nV v1) (nV v4) (nV v2) (nV v3) + oddsL A.1 (nV v1) (nV v4) (nV v2) (nV v3)), A) else (1, nI 0, A)
/-! ===== the second reading: the number of a deal ===== -/
/-- the lowest number that gives the same cards -/
def numF (R : Nat → Nat) (mc : Nat) (cs : List Nat) (k j : Nat) : Int32 := optI ((List.range' k j).find? (fun x => decide (cardsA R mc x = cs)))
def aNumberOf (A : AS) (v : Int32) : Nat × Int32 × AS := if inB v 0 1 = true then (0, numF A.2.1 (nV v) (cardsA A.2.1 A.2.2.2.2.2.1 A.2.2.2.2.2.2) 0 501, A) else (1, nI 0, A)
theorem dec_nI (j : Nat) : nI (j + 1) + (-1) = nI j := by
  rw [← nI_add, Int32.add_assoc, show nI 1 + (-1 : Int32) = 0 by decide, Int32.add_zero]
