/-! ===== positions, rules, moves: what both sides are held against ===== -/
/-- what lies at each place (the top first), how many cards of a column lie hidden, how many of each suit are up, how often the stock was turned -/
abbrev Pos : Type := (Nat → List Nat) × (Nat → Nat) × (Nat → Nat) × Nat
/-- rules: suits, ranks, columns, cells, build, empty, stock, again, hidden -/
def RulesOk (R : Nat → Nat) : Prop := 1 ≤ R 0 ∧ R 0 ≤ 4 ∧ 1 ≤ R 1 ∧ R 1 ≤ 6 ∧ 2 ≤ R 0 * R 1 ∧ R 0 * R 1 ≤ 16 ∧ 1 ≤ R 2 ∧ R 2 ≤ 5 ∧ R 3 ≤ 2 ∧ R 4 ≤ 2 ∧ R 5 ≤ 2 ∧ R 6 ≤ 8 ∧ R 6 < R 0 * R 1 ∧ R 7 ≤ 2 ∧ R 8 ≤ 1
def RR (r : Nat → Int32) (R : Nat → Nat) : Prop := (∀ k, k < 9 → r k = nI (R k)) ∧ RulesOk R
def fitB (R : Nat → Nat) (c o : Nat) : Bool := decide (c % R 1 + 1 = o % R 1) && (if R 4 = 0 then decide (c / R 1 = o / R 1) else if R 4 = 1 then decide (¬ c / R 1 % 2 = o / R 1 % 2) else true)
def emptyB (R : Nat → Nat) (c : Nat) : Bool := decide (R 5 = 0) || (decide (R 5 = 1) && decide (c % R 1 + 1 = R 1))
def forCol (R : Nat → Nat) (l : List Nat) (c : Nat) : Bool := match l with
  | [] => emptyB R c
  | o :: _ => fitB R c o
/-- the n last cards, none hidden, each of which fits on the one ahead of it -/
def isRun (R : Nat → Nat) (l : List Nat) (h n : Nat) : Bool := decide (h + n ≤ l.length) && (List.range (n - 1)).all (fun j => fitB R (l.getD j 0) (l.getD (j + 1) 0))
def cntB (p : Nat → Bool) : Nat → Nat
  | 0 => 0
  | n + 1 => cntB p n + if p n then 1 else 0
def most (R : Nat → Nat) (P : Pos) (t : Nat) : Nat := (1 + cntB (fun k => (P.1 (5 + k)).isEmpty) (R 3)) * 2 ^ cntB (fun c => decide (c ≠ t) && (P.1 c).isEmpty) (R 2)
def legal (R : Nat → Nat) (P : Pos) (f t n : Nat) : Bool :=
  if f = 9 then decide (t = 7) && (!(P.1 9).isEmpty || (!(P.1 7).isEmpty && decide (P.2.2.2 < R 7)))
  else match P.1 f with
  | [] => false
  | c :: l =>
    if t = 8 then decide (c % R 1 = P.2.2.1 (c / R 1))
    else if t = 5 ∨ t = 6 then decide (f < 5 ∨ f = 7) && (decide (t - 5 < R 3) && (P.1 t).isEmpty)
    else if t < 5 then decide (t < R 2) && (decide (f ≠ t) && (if f < 5 then isRun R (c :: l) (P.2.1 f) n && (decide (n ≤ most R P t) && forCol R (P.1 t) ((c :: l).getD (n - 1) 0)) else forCol R (P.1 t) c))
    else false
/-- a place of the foundations, stock and waste, column, cell: the floor's number in the class -/
def floorN (p : Nat) : Nat := if p < 5 then 16 else if p < 7 then 17 else if p = 7 then 18 else if p = 8 then 20 else 19
def topI (l : List Nat) : Int32 := match l with
  | [] => -1
  | c :: _ => nI c
def optI (o : Option Nat) : Int32 := match o with
  | none => -1
  | some c => nI c
/-- what the first card of l that is c lies on: the next one, or the floor -/
def onIn (l : List Nat) (fl c : Nat) : Option Nat := match l with
  | [] => none
  | x :: r => if x = c then some (match r with | [] => fl | d :: _ => d) else onIn r fl c
/-- what a card lies on: a card, a floor, or 20 where it lies at no place -/
def onN (P : Pos) (c : Nat) : Nat := ((List.range 10).findSome? (fun p => onIn (P.1 p) (floorN p) c)).getD 20
def hidB (P : Pos) (c : Nat) : Bool := (List.range 5).any (fun p => ((P.1 p).drop ((P.1 p).length - P.2.1 p)).contains c)
/-- cards apart, places as they are, hidden ones at the bottom of columns -/
def PosOk (P : Pos) : Prop := (∀ p c, c ∈ P.1 p → c < 16) ∧ (∀ p, (P.1 p).Nodup) ∧ (∀ p q c, c ∈ P.1 p → c ∈ P.1 q → p = q) ∧ (∀ p, 10 ≤ p ∨ p = 8 → P.1 p = []) ∧ (∀ p, P.2.1 p = 0 ∨ P.2.1 p < (P.1 p).length) ∧ ∀ p, 5 ≤ p → P.2.1 p = 0
/-- the class's table, for a position -/
def TRep (T : Nat → Nat → Int32) (P : Pos) : Prop := (∀ p, p < 10 → T 2 p = topI (P.1 p)) ∧ (∀ c, c < 16 → T 1 c = nI (onN P c)) ∧ (∃ m, m < 65536 ∧ T 0 5 = nI m ∧ ∀ c, c < 16 → m.testBit c = hidB P c) ∧ T 0 6 = nI P.2.2.2 ∧ P.2.2.2 ≤ 2
theorem onIn_none {l : List Nat} {fl c : Nat} (h : c ∉ l) : onIn l fl c = none := by
  induction l with
  | nil => rfl
  | cons x r ih =>
    simp only [List.mem_cons, not_or] at h
    unfold onIn
    rw [if_neg (fun e => h.1 e.symm), ih h.2]
theorem onIn_some {l : List Nat} {fl c : Nat} (hn : l.Nodup) (k : Nat) (hk : l[k]? = some c) : onIn l fl c = some (match l[k + 1]? with | some d => d | none => fl) := by
  induction l generalizing k with
  | nil => simp at hk
  | cons x r ih =>
    rw [List.nodup_cons] at hn
    unfold onIn
    cases k with
    | zero =>
      simp only [List.getElem?_cons_zero, Option.some.injEq] at hk
      subst hk
      cases r <;> simp
    | succ k =>
      simp only [List.getElem?_cons_succ] at hk
      have hm : c ∈ r := List.mem_of_getElem? hk
      rw [if_neg (fun e : x = c => hn.1 (e ▸ hm)), ih hn.2 k hk]
      simp only [List.getElem?_cons_succ]
theorem onN_in {P : Pos} (h : PosOk P) {p c : Nat} (hp : p < 10) (k : Nat) (hk : (P.1 p)[k]? = some c) : onN P c = (match (P.1 p)[k + 1]? with | some d => d | none => floorN p) := by
  have hm : c ∈ P.1 p := List.mem_of_getElem? hk
  have h1 := onIn_some (fl := floorN p) (h.2.1 p) k hk
  unfold onN
  have h2 : ∀ q, q < p → onIn (P.1 q) (floorN q) c = none := fun q hq => onIn_none (fun hc => by have := h.2.2.1 q p c hc hm; omega)
  have h3 : (List.range 10).findSome? (fun p => onIn (P.1 p) (floorN p) c) = some (match (P.1 p)[k + 1]? with | some d => d | none => floorN p) := by
    rw [List.findSome?_eq_some_iff]
    refine ⟨List.range p, p, (List.range 10).drop (p + 1), ?_, h1, ?_⟩
    · apply List.ext_getElem?
      intro i
      rcases Nat.lt_trichotomy i p with q | q | q
      · rw [List.getElem?_append_left (by simpa using q)]; simp [q, show i < 10 by omega]
      · subst q; rw [List.getElem?_append_right (by simp)]; simp [hp]
      · rw [List.getElem?_append_right (by simp; omega)]
        obtain ⟨j, rfl⟩ : ∃ j, i = p + 1 + j := ⟨i - (p + 1), by omega⟩
        simp only [List.length_range, show p + 1 + j - p = j + 1 by omega, List.getElem?_cons_succ, List.getElem?_drop]
    · intro q hq; exact h2 q (by simpa using hq)
  rw [h3]; rfl
theorem onN_out {P : Pos} {c : Nat} (h : ∀ p, p < 10 → c ∉ P.1 p) : onN P c = 20 := by
  unfold onN
  have h3 : (List.range 10).findSome? (fun p => onIn (P.1 p) (floorN p) c) = none := by
    rw [List.findSome?_eq_none_iff]
    intro p hp
    exact onIn_none (h p (by simpa using hp))
  rw [h3]; rfl
theorem floorN_ge (p : Nat) : 16 ≤ floorN p ∧ floorN p ≤ 20 := by
  unfold floorN
  repeat' split
  all_goals omega
theorem floorN_ne {p : Nat} (h : p ≠ 8) : floorN p ≠ 20 := by
  unfold floorN
  repeat' split
  all_goals omega
theorem PosOk.place {P : Pos} (h : PosOk P) {p c : Nat} (hc : c ∈ P.1 p) : p < 10 ∧ p ≠ 8 := by
  refine ⟨?_, ?_⟩
  · rcases Nat.lt_or_ge p 10 with q | q
    · exact q
    · rw [h.2.2.2.1 p (Or.inl q)] at hc; cases hc
  · intro e; rw [h.2.2.2.1 p (Or.inr e)] at hc; cases hc
theorem onN_20 {P : Pos} (h : PosOk P) {c : Nat} : onN P c = 20 ↔ ∀ p, c ∉ P.1 p := by
  constructor
  · intro e p hc
    obtain ⟨hp, h8⟩ := h.place hc
    obtain ⟨k, hk, e2⟩ := List.getElem_of_mem hc
    have hk2 : (P.1 p)[k]? = some c := by rw [List.getElem?_eq_getElem hk, e2]
    rw [onN_in h hp k hk2] at e
    cases hd : (P.1 p)[k + 1]? with
    | none => rw [hd] at e; exact floorN_ne h8 e
    | some d => rw [hd] at e; have := h.1 p d (List.mem_of_getElem? hd); simp only at e; omega
  · intro hc; exact onN_out (fun p _ => hc p)
theorem onN_le {P : Pos} (h : PosOk P) (c : Nat) : onN P c ≤ 20 := by
  by_cases hc : ∀ p, c ∉ P.1 p
  · rw [(onN_20 h).mpr hc]; exact Nat.le_refl _
  · simp only [Classical.not_forall, Classical.not_not] at hc
    obtain ⟨p, hc⟩ := hc
    obtain ⟨hp, -⟩ := h.place hc
    obtain ⟨k, hk, e2⟩ := List.getElem_of_mem hc
    rw [onN_in h hp k (by rw [List.getElem?_eq_getElem hk, e2])]
    cases hd : (P.1 p)[k + 1]? with
    | none => exact (floorN_ge p).2
    | some d => have := h.1 p d (List.mem_of_getElem? hd); simp only; omega
theorem PosOk.len {P : Pos} (h : PosOk P) (p : Nat) : (P.1 p).length ≤ 16 := by
  have h1 := (h.2.1 p).length_le_of_subset (l₂ := List.range 16) (fun c hc => by simpa using h.1 p c hc)
  simpa using h1
