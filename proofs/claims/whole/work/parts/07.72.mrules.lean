/-! ===== the second reading: table and stock ===== -/
def okTable (v1 v2 v3 v4 : Int32) : Bool := inB v1 1 5 && (inB v2 0 2 && (inB v3 0 2 && inB v4 0 2))
def setTable (N : Nat → Nat) (v1 v2 v3 v4 : Int32) : Nat → Nat := fun k => if k = 2 then nV v1 else if k = 3 then nV v2 else if k = 4 then nV v3 else if k = 5 then nV v4 else N k
def aTable (A : AS) (v1 v2 v3 v4 : Int32) : Nat × Int32 × AS := if okTable v1 v2 v3 v4 = true then (0, nI 0, (setTable A.1 v1 v2 v3 v4, A.2)) else (1, nI 0, A)
theorem okTable_rules {N : Nat → Nat} (hN : RulesOk N) {v1 v2 v3 v4 : Int32} (h : okTable v1 v2 v3 v4 = true) : RulesOk (setTable N v1 v2 v3 v4) ∧ v1 = nI (nV v1) ∧ v2 = nI (nV v2) ∧ v3 = nI (nV v3) ∧ v4 = nI (nV v4) := by
  unfold okTable at h
  simp only [Bool.and_eq_true] at h
  obtain ⟨h1, h2, h3, h4⟩ := h
  obtain ⟨e1, a1, b1⟩ := inB_nV (by omega) (by omega) h1
  obtain ⟨e2, a2, b2⟩ := inB_nV (by omega) (by omega) h2
  obtain ⟨e3, a3, b3⟩ := inB_nV (by omega) (by omega) h3
  obtain ⟨e4, a4, b4⟩ := inB_nV (by omega) (by omega) h4
  refine ⟨?_, e1, e2, e3, e4⟩
  unfold RulesOk at hN ⊢
  show 1 ≤ N 0 ∧ N 0 ≤ 4 ∧ 1 ≤ N 1 ∧ N 1 ≤ 6 ∧ 2 ≤ N 0 * N 1 ∧ N 0 * N 1 ≤ 16 ∧ 1 ≤ nV v1 ∧ nV v1 ≤ 5 ∧ nV v2 ≤ 2 ∧ nV v3 ≤ 2 ∧ nV v4 ≤ 2 ∧ N 6 ≤ 8 ∧ N 6 < N 0 * N 1 ∧ N 7 ≤ 2 ∧ N 8 ≤ 1
  omega
theorem M_table {A : AS} {I : Nat → Nat → Int32} {L : Nat → Nat → Int64} (hA : okA A) (h : MSt A I L) (v1 v2 v3 v4 : Int32) :
    okA (aTable A v1 v2 v3 v4).2.2 ∧ ∃ I', F_X6_table L I v1 v2 v3 v4 = some I' ∧ I' 0 0 = nI (aTable A v1 v2 v3 v4).1 ∧ MSt (aTable A v1 v2 v3 v4).2.2 I' L := by
  have e : F_X6_table L I v1 v2 v3 v4 = if okTable v1 v2 v3 v4 = true then some (st2 (st2 (st2 (st2 (st2 I 0 0 (nI 0)) 0 3 v1) 0 4 v2) 0 5 v3) 0 6 v4) else some (st2 I 0 0 (nI 1)) := by
    unfold F_X6_table F_X6_table_b43
    rw [well0, well1 _ _ (Or.inl rfl), bnd_s, bnd_s, bnd_s, bnd_s, m_inB, cal1_s, bi_if, m_inB, cal1_s, bi_if, m_inB, cal1_s, bi_if, m_inB, cal1_s, bi_if]
    unfold okTable
    cases inB v1 1 5 <;> cases inB v2 0 2 <;> cases inB v3 0 2 <;> cases inB v4 0 2 <;> rfl
  rw [e]
  unfold aTable
  by_cases q : okTable v1 v2 v3 v4 = true
  · rw [if_pos q, if_pos q]
    obtain ⟨r, e1, e2, e3, e4⟩ := okTable_rules hA.1 q
    refine ⟨⟨r, hA.2⟩, _, rfl, by rw [st2_s, if_neg (by omega), st2_s, if_neg (by omega), st2_s, if_neg (by omega), st2_s, if_neg (by omega), th_s], ?_⟩
    refine ⟨fun k hk => ?_, ?_, ?_, ?_, ?_, ?_, h.2.2.2.2.2.2⟩
    · rw [st2_s, st2_s, st2_s, st2_s, st2_s]
      show _ = nI (if k = 2 then nV v1 else if k = 3 then nV v2 else if k = 4 then nV v3 else if k = 5 then nV v4 else A.1 k)
      by_cases k2 : k = 2
      · rw [if_neg (by omega), if_neg (by omega), if_neg (by omega), if_pos (by omega), if_pos k2]; exact e1
      · by_cases k3 : k = 3
        · rw [if_neg (by omega), if_neg (by omega), if_pos (by omega), if_neg k2, if_pos k3]; exact e2
        · by_cases k4 : k = 4
          · rw [if_neg (by omega), if_pos (by omega), if_neg k2, if_neg k3, if_pos k4]; exact e3
          · by_cases k5 : k = 5
            · rw [if_pos (by omega), if_neg k2, if_neg k3, if_neg k4, if_pos k5]; exact e4
            · rw [if_neg (by omega), if_neg (by omega), if_neg (by omega), if_neg (by omega), if_neg (by omega), if_neg k2, if_neg k3, if_neg k4, if_neg k5]; exact h.1 k hk
    · exact st0_rr (st0_rr (st0_rr (st0_rr (st0_rr h.2.1 _ _) _ _) _ _) _ _) _ _
    · exact ((((h.2.2.1.st0 (by omega) _).st0 (by omega) _).st0 (by omega) _).st0 (by omega) _).st0 (by omega) _
    · rw [st2_s, if_neg (by omega), st2_s, if_neg (by omega), st2_s, if_neg (by omega), st2_s, if_neg (by omega), st2_s, if_neg (by omega)]; exact h.2.2.2.1
    · rw [st2_s, if_neg (by omega), st2_s, if_neg (by omega), st2_s, if_neg (by omega), st2_s, if_neg (by omega), st2_s, if_neg (by omega)]; exact h.2.2.2.2.1
    · rw [st2_s, if_neg (by omega), st2_s, if_neg (by omega), st2_s, if_neg (by omega), st2_s, if_neg (by omega), st2_s, if_neg (by omega)]; exact h.2.2.2.2.2.1
  · rw [if_neg q, if_neg q]
    exact ⟨hA, _, rfl, th_s _ _, h.th _⟩
def okStock (N : Nat → Nat) (v1 v2 : Int32) : Bool := inB v1 0 8 && (inB v2 0 2 && decide (v1 < nI (N 0 * N 1)))
def setStock (N : Nat → Nat) (v1 v2 : Int32) (b : Bool) : Nat → Nat := fun k => if k = 6 then nV v1 else if k = 7 then nV v2 else if k = 8 then (if b = true then 1 else 0) else N k
def aStock (A : AS) (v1 v2 : Int32) (b : Bool) : Nat × Int32 × AS := if okStock A.1 v1 v2 = true then (0, nI 0, (setStock A.1 v1 v2 b, A.2)) else (1, nI 0, A)
theorem bi_nI (b : Bool) : bi b = nI (if b = true then 1 else 0) := by cases b <;> rfl
theorem okStock_rules {N : Nat → Nat} (hN : RulesOk N) {v1 v2 : Int32} {b : Bool} (h : okStock N v1 v2 = true) : RulesOk (setStock N v1 v2 b) ∧ v1 = nI (nV v1) ∧ v2 = nI (nV v2) := by
  unfold okStock at h
  simp only [Bool.and_eq_true, decide_eq_true_eq] at h
  obtain ⟨h1, h2, h3⟩ := h
  obtain ⟨e1, a1, b1⟩ := inB_nV (by omega) (by omega) h1
  obtain ⟨e2, a2, b2⟩ := inB_nV (by omega) (by omega) h2
  refine ⟨?_, e1, e2⟩
  unfold RulesOk at hN ⊢
  rw [e1, Int32.lt_iff_toInt_lt, nI_toInt (by omega), nI_toInt (by omega)] at h3
  have hb : (if b = true then 1 else 0) ≤ 1 := by cases b <;> decide
  show 1 ≤ N 0 ∧ N 0 ≤ 4 ∧ 1 ≤ N 1 ∧ N 1 ≤ 6 ∧ 2 ≤ N 0 * N 1 ∧ N 0 * N 1 ≤ 16 ∧ 1 ≤ N 2 ∧ N 2 ≤ 5 ∧ N 3 ≤ 2 ∧ N 4 ≤ 2 ∧ N 5 ≤ 2 ∧ nV v1 ≤ 8 ∧ nV v1 < N 0 * N 1 ∧ nV v2 ≤ 2 ∧ (if b = true then 1 else 0) ≤ 1
  omega
theorem M_stock {A : AS} {I : Nat → Nat → Int32} {L : Nat → Nat → Int64} (hA : okA A) (h : MSt A I L) (v1 v2 : Int32) (b : Bool) :
    okA (aStock A v1 v2 b).2.2 ∧ ∃ I', F_X6_stock L I v1 v2 (bi b) = some I' ∧ I' 0 0 = nI (aStock A v1 v2 b).1 ∧ MSt (aStock A v1 v2 b).2.2 I' L := by
  have e0 : I 0 1 * I 0 2 = nI (A.1 0 * A.1 1) := by rw [show I 0 1 = nI (A.1 0) from h.1 0 (by omega), show I 0 2 = nI (A.1 1) from h.1 1 (by omega), pk_mul]
  have e : F_X6_stock L I v1 v2 (bi b) = if okStock A.1 v1 v2 = true then some (st2 (st2 (st2 (st2 I 0 0 (nI 0)) 0 7 v1) 0 8 v2) 0 9 (bi b)) else some (st2 I 0 0 (nI 1)) := by
    unfold F_X6_stock F_X6_stock_b38
    rw [well0, well1 _ _ (Or.inl rfl), bnd_s, bnd_s, zb_bi, bnd_s, m_inB, cal1_s, bi_if, m_inB, cal1_s, bi_if, e0]
    unfold okStock
    cases inB v1 0 8 <;> cases inB v2 0 2 <;> simp only [Bool.true_and, Bool.false_and, if_true, Bool.false_eq_true, if_false]
    by_cases q : v1 < nI (A.1 0 * A.1 1)
    · rw [decide_eq_true q, if_neg (Int32.not_le.mpr q), if_pos rfl]
    · rw [decide_eq_false q, if_pos (Int32.not_lt.mp q), if_neg Bool.false_ne_true]
  rw [e]
  unfold aStock
  by_cases q : okStock A.1 v1 v2 = true
  · rw [if_pos q, if_pos q]
    obtain ⟨r, e1, e2⟩ := okStock_rules (b := b) hA.1 q
    refine ⟨⟨r, hA.2⟩, _, rfl, by rw [st2_s, if_neg (by omega), st2_s, if_neg (by omega), st2_s, if_neg (by omega), th_s], ?_⟩
    refine ⟨fun k hk => ?_, ?_, ?_, ?_, ?_, ?_, h.2.2.2.2.2.2⟩
    · rw [st2_s, st2_s, st2_s, st2_s]
      show _ = nI (if k = 6 then nV v1 else if k = 7 then nV v2 else if k = 8 then (if b = true then 1 else 0) else A.1 k)
      by_cases k6 : k = 6
      · rw [if_neg (by omega), if_neg (by omega), if_pos (by omega), if_pos k6]; exact e1
      · by_cases k7 : k = 7
        · rw [if_neg (by omega), if_pos (by omega), if_neg k6, if_pos k7]; exact e2
        · by_cases k8 : k = 8
          · rw [if_pos (by omega), if_neg k6, if_neg k7, if_pos k8]; exact bi_nI b
          · rw [if_neg (by omega), if_neg (by omega), if_neg (by omega), if_neg (by omega), if_neg k6, if_neg k7, if_neg k8]; exact h.1 k hk
    · exact st0_rr (st0_rr (st0_rr (st0_rr h.2.1 _ _) _ _) _ _) _ _
    · exact (((h.2.2.1.st0 (by omega) _).st0 (by omega) _).st0 (by omega) _).st0 (by omega) _
    · rw [st2_s, if_neg (by omega), st2_s, if_neg (by omega), st2_s, if_neg (by omega), st2_s, if_neg (by omega)]; exact h.2.2.2.1
    · rw [st2_s, if_neg (by omega), st2_s, if_neg (by omega), st2_s, if_neg (by omega), st2_s, if_neg (by omega)]; exact h.2.2.2.2.1
    · rw [st2_s, if_neg (by omega), st2_s, if_neg (by omega), st2_s, if_neg (by omega), st2_s, if_neg (by omega)]; exact h.2.2.2.2.2.1
  · rw [if_neg q, if_neg q]
    exact ⟨hA, _, rfl, th_s _ _, h.th _⟩
