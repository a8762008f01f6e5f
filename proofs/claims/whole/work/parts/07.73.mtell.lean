/-! ===== the second reading: what is told ===== -/
theorem pos_nV {v : Int32} (h : ¬ v < nI 0) : v = nI (nV v) ∧ nV v < 2 ^ 31 := by
  rw [Int32.lt_iff_toInt_lt, nI_toInt (by omega)] at h
  have := Int32.toInt_lt v
  unfold nV
  refine ⟨Int32.toInt_inj.mp ?_, by omega⟩
  rw [nI_toInt (by omega)]; omega
def aMoves (A : AS) : Nat × Int32 × AS := (0, nI (mvs A.2.1 (cur A.2.2.1)).length, A)
def aMoveAt (A : AS) (v : Int32) : Nat × Int32 × AS := if v < nI 0 then (1, nI 0, A) else (0, optI (mvs A.2.1 (cur A.2.2.1))[nV v]?, A)
def okCard (v1 v2 : Int32) : Bool := inB v1 0 9 && decide (¬ v2 < nI 0)
def aCard (A : AS) (v1 v2 : Int32) : Nat × Int32 × AS := if okCard v1 v2 = true then (0, cardA A.2.1 (cur A.2.2.1) (nV v1) (nV v2), A) else (1, nI 0, A)
def aTold (A : AS) (v : Int32) : Nat × Int32 × AS := if inB v 0 7 = true then (0, toldA A.2.1 (cur A.2.2.1) (A.2.2.1.length - 1) A.2.2.2.1 A.2.2.2.2.1 (nV v), A) else (1, nI 0, A)
def aSearch (A : AS) (v : Int32) : Nat × Int32 × AS := if inB v 1 400 = true then (0, (searchA A.2.1 (nV v) (cur A.2.2.1)).1, A) else (1, nI 0, A)
def aKnown (A : AS) (v : Int32) : Nat × Int32 × AS := if inB v 1 400 = true then (0, nI (searchA A.2.1 (nV v) (cur A.2.2.1)).2.length, A) else (1, nI 0, A)
theorem M_moves {A : AS} {I : Nat → Nat → Int32} {L : Nat → Nat → Int64} (hA : okA A) (h : MSt A I L) :
    ∃ I', F_X6_moves L I = some ((aMoves A).2.1, I') ∧ I' 0 0 = nI (aMoves A).1 ∧ MSt (aMoves A).2.2 I' L :=
  ⟨_, m_moves h.2.2.1 hA.wf h.2.1, th_s _ _, h.th _⟩
theorem M_moveAt {A : AS} {I : Nat → Nat → Int32} {L : Nat → Nat → Int64} (hA : okA A) (h : MSt A I L) (v : Int32) :
    ∃ I', F_X6_moveAt L I v = some ((aMoveAt A v).2.1, I') ∧ I' 0 0 = nI (aMoveAt A v).1 ∧ MSt (aMoveAt A v).2.2 I' L := by
  unfold aMoveAt
  by_cases q : v < nI 0
  · rw [if_pos q]
    exact ⟨_, m_moveAt_neg q, th_s _ _, h.th _⟩
  · rw [if_neg q]
    obtain ⟨e, hv⟩ := pos_nV q
    have := m_moveAt h.2.2.1 hA.wf h.2.1 hv
    rw [← e] at this
    exact ⟨_, this, th_s _ _, h.th _⟩
theorem M_card {A : AS} {I : Nat → Nat → Int32} {L : Nat → Nat → Int64} (hA : okA A) (h : MSt A I L) (v1 v2 : Int32) :
    ∃ I', F_X6_card L I v1 v2 = some ((aCard A v1 v2).2.1, I') ∧ I' 0 0 = nI (aCard A v1 v2).1 ∧ MSt (aCard A v1 v2).2.2 I' L := by
  have no : F_X6_card_b20 L I v1 v2 (nI 1) = some (nI 0, st2 I 0 0 (nI 1)) := by
    unfold F_X6_card_b20
    rw [well1 _ _ (Or.inl rfl)]
  unfold aCard okCard
  cases q : inB v1 0 9
  · refine ⟨st2 I 0 0 (nI 1), ?_, th_s _ _, h.th _⟩
    unfold F_X6_card
    rw [m_inB, cal1_s, q, bi_if, if_neg Bool.false_ne_true, no]; rfl
  · by_cases q2 : v2 < nI 0
    · rw [decide_eq_false (Classical.not_not.mpr q2)]
      refine ⟨st2 I 0 0 (nI 1), ?_, th_s _ _, h.th _⟩
      unfold F_X6_card
      rw [m_inB, cal1_s, q, bi_if, if_pos rfl, if_pos q2, no]; rfl
    · rw [decide_eq_true q2]
      obtain ⟨e, hv⟩ := pos_nV q2
      obtain ⟨e1, -, b1⟩ := inB_nV (by omega) (by omega) q
      have := m_card h.2.2.1 hA.wf h.2.1 (p := nV v1) (by omega) hv
      rw [← e, ← e1] at this
      exact ⟨_, this, th_s _ _, h.th _⟩
theorem M_told {A : AS} {I : Nat → Nat → Int32} {L : Nat → Nat → Int64} (hA : okA A) (h : MSt A I L) (v : Int32) :
    ∃ I', F_X6_told L I v = some ((aTold A v).2.1, I') ∧ I' 0 0 = nI (aTold A v).1 ∧ MSt (aTold A v).2.2 I' L := by
  unfold aTold
  cases q : inB v 0 7
  · refine ⟨st2 I 0 0 (nI 1), ?_, th_s _ _, h.th _⟩
    unfold F_X6_told F_X6_told_b16
    rw [well1 _ _ (Or.inl rfl), m_inB, cal1_s, q, bi_if, if_neg Bool.false_ne_true]; rfl
  · obtain ⟨e1, -, b1⟩ := inB_nV (by omega) (by omega) q
    have := m_told h.2.2.1 hA.wf h.2.1 h.2.2.2.1 h.2.2.2.2.1 (k := nV v) (by omega)
    rw [← e1, h.2.2.2.2.2.1] at this
    exact ⟨_, this, th_s _ _, h.th _⟩
theorem FrM.th {I I' : Nat → Nat → Int32} {x : Int32} (h : FrM (st2 I 0 0 x) I') : I' 0 0 = x := by
  rw [h.2 0 (by omega) (by omega) (by omega) (by omega)]; exact th_s I x
theorem M_search {A : AS} {I : Nat → Nat → Int32} {L : Nat → Nat → Int64} (hA : okA A) (h : MSt A I L) (v : Int32) : MStep (F_X6_search I L v) (aSearch A v) := by
  unfold aSearch
  cases q : inB v 1 400
  · refine ⟨st2 I 0 0 (nI 1), L, ?_, th_s _ _, h.th _⟩
    unfold F_X6_search F_X6_search_b17
    rw [well1 _ _ (Or.inl rfl), m_inB, cal1_s, q, bi_if, if_neg Bool.false_ne_true]; rfl
  · obtain ⟨e1, a1, b1⟩ := inB_nV (by omega) (by omega) q
    obtain ⟨I', L', z1, z2, z3, z4⟩ := m_search h.2.2.1 hA.wf h.2.1 a1 b1
    rw [← e1] at z1
    exact ⟨I', L', z1, z3.th, (h.th (nI 0)).fr z3 z4.1 z2⟩
theorem M_known {A : AS} {I : Nat → Nat → Int32} {L : Nat → Nat → Int64} (hA : okA A) (h : MSt A I L) (v : Int32) : MStep (F_X6_known I L v) (aKnown A v) := by
  unfold aKnown
  cases q : inB v 1 400
  · refine ⟨st2 I 0 0 (nI 1), L, ?_, th_s _ _, h.th _⟩
    unfold F_X6_known F_X6_known_b17
    rw [well1 _ _ (Or.inl rfl), m_inB, cal1_s, q, bi_if, if_neg Bool.false_ne_true]; rfl
  · obtain ⟨e1, a1, b1⟩ := inB_nV (by omega) (by omega) q
    obtain ⟨I', L', z1, z2, z3, z4⟩ := m_known h.2.2.1 hA.wf h.2.1 a1 b1
    rw [← e1] at z1
    exact ⟨I', L', z1, z3.th, (h.th (nI 0)).fr z3 z4.1 z2⟩
