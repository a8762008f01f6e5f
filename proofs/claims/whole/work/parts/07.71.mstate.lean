/-! ===== the whole state: the next rules, the rules, all positions from the deal on, moves undone, money of older deals, machine and number of the deal ===== -/
abbrev AS : Type := (Nat → Nat) × (Nat → Nat) × List Pos × Nat × Int32 × Nat × Nat
def cur (past : List Pos) : Pos := past.getLast?.getD emptyP
def okA (A : AS) : Prop := RulesOk A.1 ∧ RulesOk A.2.1 ∧ 1 ≤ A.2.2.1.length ∧ A.2.2.1.length ≤ 201 ∧ (∀ P, P ∈ A.2.2.1 → WF A.2.1 P) ∧ A.2.2.1[0]? = some (dealP A.2.1 A.2.2.2.2.2.1 A.2.2.2.2.2.2) ∧ A.2.2.2.2.2.1 < 2 ∧ A.2.2.2.2.2.2 < 2147483648
def MSt (A : AS) (I : Nat → Nat → Int32) (L : Nat → Nat → Int64) : Prop :=
  (∀ k, k < 9 → I 0 (k + 1) = nI (A.1 k)) ∧ RR (I 1) A.2.1 ∧ MRep I L (cur A.2.2.1) ∧ I 0 13 = nI (A.2.2.1.length - 1) ∧ I 0 12 = nI A.2.2.2.1 ∧ I 0 14 = A.2.2.2.2.1 ∧ MPast L A.2.2.1
theorem okA.curm {A : AS} (h : okA A) : cur A.2.2.1 ∈ A.2.2.1 := by
  have h1 := h.2.2.1
  unfold cur
  cases e : A.2.2.1.getLast? with
  | none => rw [List.getLast?_eq_none_iff] at e; rw [e] at h1; exact absurd h1 (by decide)
  | some P => exact List.mem_of_getLast? e
theorem okA.wf {A : AS} (h : okA A) : WF A.2.1 (cur A.2.2.1) := h.2.2.2.2.1 _ h.curm
theorem MSt.keep {A : AS} {I I' : Nat → Nat → Int32} {L L' : Nat → Nat → Int64} (h : MSt A I L) (h0 : ∀ j, 1 ≤ j → j ≤ 14 → I' 0 j = I 0 j) (h1 : I' 1 = I 1) (hL : L' 1 = L 1) (hm : MRep I' L' (cur A.2.2.1)) : MSt A I' L' := by
  refine ⟨fun k hk => ?_, ?_, hm, ?_, ?_, ?_, ?_⟩
  · rw [h0 _ (by omega) (by omega)]; exact h.1 k hk
  · rw [h1]; exact h.2.1
  · rw [h0 _ (by omega) (by omega)]; exact h.2.2.2.1
  · rw [h0 _ (by omega) (by omega)]; exact h.2.2.2.2.1
  · rw [h0 _ (by omega) (by omega)]; exact h.2.2.2.2.2.1
  · intro i P hi j hj; rw [hL]; exact h.2.2.2.2.2.2 i P hi j hj
theorem MSt.fr {A : AS} {I I' : Nat → Nat → Int32} {L L' : Nat → Nat → Int64} (h : MSt A I L) (hI : FrM I I') (hL : L' 1 = L 1) (hm : MRep I' L' (cur A.2.2.1)) : MSt A I' L' :=
  h.keep (fun j _ _ => hI.2 j (by omega) (by omega) (by omega) (by omega)) (hI.1 1 (by omega)) hL hm
theorem MSt.th {A : AS} {I : Nat → Nat → Int32} {L : Nat → Nat → Int64} (h : MSt A I L) (x : Int32) : MSt A (st2 I 0 0 x) L :=
  h.keep (fun j _ _ => by rw [st2_s, if_neg (by omega)]) (funext fun j => by rw [st2_s, if_neg (by omega)]) rfl (h.2.2.1.st0 (by omega) x)
theorem th_s (I : Nat → Nat → Int32) (x : Int32) : st2 I 0 0 x 0 0 = x := by rw [st2_s, if_pos ⟨rfl, rfl⟩]
/-- what a call gives and leaves: the exception's place, the answer, the state -/
def MStep (x : Option (Int32 × (Nat → Nat → Int32) × (Nat → Nat → Int64))) (z : Nat × Int32 × AS) : Prop :=
  ∃ I' L', x = some (z.2.1, I', L') ∧ I' 0 0 = nI z.1 ∧ MSt z.2.2 I' L'
def inB (v : Int32) (a b : Nat) : Bool := decide (nI a ≤ v) && decide (v ≤ nI b)
def nV (v : Int32) : Nat := v.toInt.toNat
theorem inB_nV {v : Int32} {a b : Nat} (ha : a < 2 ^ 31) (hb : b < 2 ^ 31) (h : inB v a b = true) : v = nI (nV v) ∧ a ≤ nV v ∧ nV v ≤ b := by
  unfold inB at h
  simp only [Bool.and_eq_true, decide_eq_true_eq, Int32.le_iff_toInt_le, nI_toInt ha, nI_toInt hb] at h
  unfold nV
  refine ⟨?_, by omega, by omega⟩
  apply Int32.toInt_inj.mp
  rw [nI_toInt (by omega)]; omega
theorem m_inB (v : Int32) (a b : Nat) : F_X6_in v (nI a) (nI b) = some (bi (inB v a b)) := m_in v _ _
theorem well0 {α : Type} (L : Nat → Nat → Int64) (I : Nat → Nat → Int32) (x : (Nat → Nat → Int32) → Option α) (y : (Nat → Nat → Int32) → Option α) : (cal2 (F_X6_goesWell L I (nI 0)) fun z I2 => if z = nI 0 then x I2 else y I2) = y (st2 I 0 0 (nI 0)) := by
  rw [m_goesWell, cal2_s, bi_if, if_pos (by decide)]
theorem well1 {α : Type} (L : Nat → Nat → Int64) (I : Nat → Nat → Int32) {s : Nat} (hs : s = 1 ∨ s = 2) (x : (Nat → Nat → Int32) → Option α) (y : (Nat → Nat → Int32) → Option α) : (cal2 (F_X6_goesWell L I (nI s)) fun z I2 => if z = nI 0 then x I2 else y I2) = x (st2 I 0 0 (nI s)) := by
  rw [m_goesWell, cal2_s, bi_if, if_neg]
  rcases hs with rfl | rfl <;> decide
/-! the rules of the next deals -/
def okDeck (N : Nat → Nat) (v1 v2 : Int32) : Bool := inB v1 1 4 && (inB v2 1 6 && (inB (v1 * v2) 2 16 && decide (nI (N 6) < v1 * v2)))
def setDeck (N : Nat → Nat) (v1 v2 : Int32) : Nat → Nat := fun k => if k = 0 then nV v1 else if k = 1 then nV v2 else N k
def aDeck (A : AS) (v1 v2 : Int32) : Nat × Int32 × AS := if okDeck A.1 v1 v2 = true then (0, v1 * v2, (setDeck A.1 v1 v2, A.2)) else (1, nI 0, A)
theorem okDeck_rules {N : Nat → Nat} (hN : RulesOk N) {v1 v2 : Int32} (h : okDeck N v1 v2 = true) : RulesOk (setDeck N v1 v2) ∧ v1 = nI (nV v1) ∧ v2 = nI (nV v2) := by
  unfold okDeck at h
  simp only [Bool.and_eq_true, decide_eq_true_eq] at h
  obtain ⟨h1, h2, h3, h4⟩ := h
  obtain ⟨e1, a1, b1⟩ := inB_nV (by omega) (by omega) h1
  obtain ⟨e2, a2, b2⟩ := inB_nV (by omega) (by omega) h2
  refine ⟨?_, e1, e2⟩
  have hp : nV v1 * nV v2 ≤ 4 * 6 := Nat.mul_le_mul b1 b2
  have e : v1 * v2 = nI (nV v1 * nV v2) := by rw [e1, e2, pk_mul, ← e1, ← e2]
  rw [e] at h3 h4
  obtain ⟨e3, a3, b3⟩ := inB_nV (by omega) (by omega) h3
  have e4 : nV (nI (nV v1 * nV v2)) = nV v1 * nV v2 := by unfold nV; rw [nI_toInt (by unfold nV at hp; omega)]; rfl
  rw [e4] at a3 b3
  unfold RulesOk at hN ⊢
  rw [Int32.lt_iff_toInt_lt, nI_toInt (by omega), nI_toInt (by omega)] at h4
  show 1 ≤ nV v1 ∧ nV v1 ≤ 4 ∧ 1 ≤ nV v2 ∧ nV v2 ≤ 6 ∧ 2 ≤ nV v1 * nV v2 ∧ nV v1 * nV v2 ≤ 16 ∧ 1 ≤ N 2 ∧ N 2 ≤ 5 ∧ N 3 ≤ 2 ∧ N 4 ≤ 2 ∧ N 5 ≤ 2 ∧ N 6 ≤ 8 ∧ N 6 < nV v1 * nV v2 ∧ N 7 ≤ 2 ∧ N 8 ≤ 1
  omega
theorem M_deck {A : AS} {I : Nat → Nat → Int32} {L : Nat → Nat → Int64} (hA : okA A) (h : MSt A I L) (v1 v2 : Int32) :
    okA (aDeck A v1 v2).2.2 ∧ ∃ I', F_X6_deck L I v1 v2 = some ((aDeck A v1 v2).2.1, I') ∧ I' 0 0 = nI (aDeck A v1 v2).1 ∧ MSt (aDeck A v1 v2).2.2 I' L := by
  have e7 : I 0 7 = nI (A.1 6) := h.1 6 (by omega)
  have e : F_X6_deck L I v1 v2 = if okDeck A.1 v1 v2 = true then some (v1 * v2, st2 (st2 (st2 I 0 0 (nI 0)) 0 1 v1) 0 2 v2) else some (nI 0, st2 I 0 0 (nI 1)) := by
    unfold F_X6_deck F_X6_deck_b46 F_X6_deck_b57
    rw [if_pos rfl, if_neg (show ¬ nI 1 = nI 0 by decide), well0, well1 _ _ (Or.inl rfl), bnd_s, bnd_s, m_inB, cal1_s, bi_if, m_inB, cal1_s, bi_if, m_inB, cal1_s, bi_if, e7]
    unfold okDeck
    cases inB v1 1 4 <;> cases inB v2 1 6 <;> cases inB (v1 * v2) 2 16 <;> simp only [Bool.true_and, Bool.false_and, if_true, Bool.false_eq_true, if_false]
    by_cases q : nI (A.1 6) < v1 * v2
    · rw [decide_eq_true q, if_neg (Int32.not_le.mpr q), if_pos rfl]
    · rw [decide_eq_false q, if_pos (Int32.not_lt.mp q), if_neg Bool.false_ne_true]
  rw [e]
  unfold aDeck
  by_cases q : okDeck A.1 v1 v2 = true
  · rw [if_pos q, if_pos q]
    obtain ⟨r, e1, e2⟩ := okDeck_rules hA.1 q
    refine ⟨⟨r, hA.2⟩, _, rfl, by rw [st2_s, if_neg (by omega), st2_s, if_neg (by omega), th_s], ?_⟩
    refine ⟨fun k hk => ?_, ?_, ?_, ?_, ?_, ?_, h.2.2.2.2.2.2⟩
    · rw [st2_s, st2_s, st2_s]
      show _ = nI (if k = 0 then nV v1 else if k = 1 then nV v2 else A.1 k)
      by_cases k0 : k = 0
      · rw [if_neg (by omega), if_pos (by omega), if_pos k0]; exact e1
      · by_cases k1 : k = 1
        · rw [if_pos (by omega), if_neg k0, if_pos k1]; exact e2
        · rw [if_neg (by omega), if_neg (by omega), if_neg (by omega), if_neg k0, if_neg k1]; exact h.1 k hk
    · exact st0_rr (st0_rr (st0_rr h.2.1 _ _) _ _) _ _
    · exact ((h.2.2.1.st0 (by omega) _).st0 (by omega) _).st0 (by omega) _
    · rw [st2_s, if_neg (by omega), st2_s, if_neg (by omega), st2_s, if_neg (by omega)]; exact h.2.2.2.1
    · rw [st2_s, if_neg (by omega), st2_s, if_neg (by omega), st2_s, if_neg (by omega)]; exact h.2.2.2.2.1
    · rw [st2_s, if_neg (by omega), st2_s, if_neg (by omega), st2_s, if_neg (by omega)]; exact h.2.2.2.2.2.1
  · rw [if_neg q, if_neg q]
    exact ⟨hA, _, rfl, th_s _ _, h.th _⟩
