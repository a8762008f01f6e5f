/-! ===== the second reading: odds ===== -/
def tellsA (N : Nat → Nat) (mc b x : Nat) : Int32 := (searchA N b (dealP N mc x)).1
def oddsW (N : Nat → Nat) (mc b x : Nat) : Nat → Nat
  | 0 => 0
  | j + 1 => oddsW N mc b x j + (if tellsA N mc b (x + j) < nI 0 then 0 else 1)
def oddsL (N : Nat → Nat) (mc b x : Nat) : Nat → Nat
  | 0 => 0
  | j + 1 => oddsL N mc b x j + (if tellsA N mc b (x + j) = -1 then 1 else 0)
def okOdds (v1 v2 v3 v4 : Int32) : Bool := inB v1 0 1 && (inB v2 0 1000000 && (inB v3 1 8 && inB v4 1 200))
def aOdds (A : AS) (v1 v2 v3 v4 : Int32) : Nat × Int32 × AS := if okOdds v1 v2 v3 v4 = true then (0, nI (10 * oddsW A.1 (nV v1) (nV v4) (nV v2) (nV v3) + oddsL A.1 (nV v1) (nV v4) (nV v2) (nV v3)), A) else (1, nI 0, A)
theorem m_odds_79 (L : Nat → Nat → Int64) (v1 v2 v3 v4 : Int32) : ∀ (j k n : Nat) (I : Nat → Nat → Int32), k + j = 9 → j < n → (∀ i, i < k → I 2 i = I 1 i) →
    ∃ I', F_X6_odds_L79 n I L v1 v2 v3 v4 (nI k) = F_X6_odds_b106 I' L v1 v2 v3 v4 ∧ (∀ i, i < 9 → I' 2 i = I 1 i) ∧ ∀ a, a ≠ 2 → I' a = I a := by
  intro j
  induction j with
  | zero =>
    intro k n I hk hn h
    obtain ⟨n, rfl⟩ : ∃ q, n = q + 1 := ⟨n - 1, by omega⟩
    refine ⟨I, ?_, fun i hi => h i (by omega), fun _ _ => rfl⟩
    show F_X6_odds_s79 (F_X6_odds_L79 n) _ _ _ _ _ _ _ = _
    unfold F_X6_odds_s79
    rw [if_pos (nI_le (by omega) (by omega))]
  | succ j ih =>
    intro k n I hk hn h
    obtain ⟨n, rfl⟩ : ∃ q, n = q + 1 := ⟨n - 1, by omega⟩
    have e1 : st2 I 2 k (I 1 k) 1 = I 1 := funext fun j => by rw [st2_s, if_neg (by omega)]
    obtain ⟨I', a1, a2, a3⟩ := ih (k + 1) n (st2 I 2 k (I 1 k)) (by omega) (by omega) (fun i hi => by
      rw [e1, st2_s]
      split
      · rename_i z; rw [z.2]
      · exact h i (by omega))
    refine ⟨I', ?_, fun i hi => by rw [a2 i hi, e1], fun a ha => by rw [a3 a ha]; funext j; rw [st2_s, if_neg (by omega)]⟩
    rw [← a1]
    show F_X6_odds_s79 (F_X6_odds_L79 n) _ _ _ _ _ _ _ = _
    unfold F_X6_odds_s79
    rw [if_neg (nI_ge (by omega) (by omega)), rdA_n _ (by omega) (by omega), wrA_n _ (by omega) (by omega), nI_add]
theorem m_odds_182 (L : Nat → Nat → Int64) (v6 v7 : Int32) : ∀ (j k n : Nat) (I : Nat → Nat → Int32), k + j = 9 → j < n → (∀ i, i < k → I 1 i = I 2 i) →
    ∃ I', F_X6_odds_L182 n I L v6 v7 (nI k) = F_X6_odds_b209 I' L v6 v7 ∧ (∀ i, i < 9 → I' 1 i = I 2 i) ∧ ∀ a, a ≠ 1 → I' a = I a := by
  intro j
  induction j with
  | zero =>
    intro k n I hk hn h
    obtain ⟨n, rfl⟩ : ∃ q, n = q + 1 := ⟨n - 1, by omega⟩
    refine ⟨I, ?_, fun i hi => h i (by omega), fun _ _ => rfl⟩
    show F_X6_odds_s182 (F_X6_odds_L182 n) _ _ _ _ _ = _
    unfold F_X6_odds_s182
    rw [if_pos (nI_le (by omega) (by omega))]
  | succ j ih =>
    intro k n I hk hn h
    obtain ⟨n, rfl⟩ : ∃ q, n = q + 1 := ⟨n - 1, by omega⟩
    have e1 : st2 I 1 k (I 2 k) 2 = I 2 := funext fun j => by rw [st2_s, if_neg (by omega)]
    obtain ⟨I', a1, a2, a3⟩ := ih (k + 1) n (st2 I 1 k (I 2 k)) (by omega) (by omega) (fun i hi => by
      rw [e1, st2_s]
      split
      · rename_i z; rw [z.2]
      · exact h i (by omega))
    refine ⟨I', ?_, fun i hi => by rw [a2 i hi, e1], fun a ha => by rw [a3 a ha]; funext j; rw [st2_s, if_neg (by omega)]⟩
    rw [← a1]
    show F_X6_odds_s182 (F_X6_odds_L182 n) _ _ _ _ _ = _
    unfold F_X6_odds_s182
    rw [if_neg (nI_ge (by omega) (by omega)), rdA_n _ (by omega) (by omega), wrA_n _ (by omega) (by omega), nI_add]
theorem oddsW_le (N : Nat → Nat) (mc b x : Nat) : ∀ j, oddsW N mc b x j ≤ j
  | 0 => Nat.le_refl 0
  | j + 1 => by
    have := oddsW_le N mc b x j
    show oddsW N mc b x j + (if tellsA N mc b (x + j) < nI 0 then 0 else 1) ≤ j + 1
    split <;> omega
theorem m_odds_119 {N : Nat → Nat} {mc b x m : Nat} (hm : mc < 2) (hx : x ≤ 1000000) (hm8 : m ≤ 8) (hb1 : 1 ≤ b) (hb : b ≤ 400) : ∀ (j k n : Nat) (I : Nat → Nat → Int32) (L : Nat → Nat → Int64), k + j = m → j < n → RR (I 1) N →
    ∃ I' L', F_X6_odds_L119 n I L (nI mc) (nI x) (nI m) (nI b) (nI (oddsW N mc b x k)) (nI (oddsL N mc b x k)) (nI k) = F_X6_odds_L182 FU I' L' (nI (oddsW N mc b x m)) (nI (oddsL N mc b x m)) (nI 0) ∧ FrM I I' ∧ FrLM L L' := by
  intro j
  induction j with
  | zero =>
    intro k n I L hk hn hr
    obtain ⟨n, rfl⟩ : ∃ q, n = q + 1 := ⟨n - 1, by omega⟩
    refine ⟨I, L, ?_, FrM.refl I, FrLM.refl L⟩
    show F_X6_odds_s119 (F_X6_odds_L119 n) _ _ _ _ _ _ _ _ _ = _
    unfold F_X6_odds_s119
    rw [if_pos (nI_le (by omega) (by omega)), show k = m by omega]
  | succ j ih =>
    intro k n I L hk hn hr
    obtain ⟨n, rfl⟩ : ∃ q, n = q + 1 := ⟨n - 1, by omega⟩
    obtain ⟨I1, L1, a1, a2, a3, a4⟩ := m_lay (I := I) (L := L) hm (show x + k < 2147483648 by omega) hr (deal_inv hr.2 hm)
    have hr1 : RR (I1 1) N := by rw [a3.1 1 (by omega)]; exact hr
    obtain ⟨I2, L2, b1, b2, b3, b4, -⟩ := m_look hr1 a2 (wf_dealP hr.2 hm) hb1 hb
    have hr2 : RR (I2 1) N := by rw [b3.1 1 (by omega)]; exact hr1
    obtain ⟨I3, L3, c1, c2, c3⟩ := ih (k + 1) n I2 L2 (by omega) (by omega) hr2
    refine ⟨I3, L3, ?_, (a3.m.trans b3).trans c2, (a4.m.trans b4).trans c3⟩
    rw [← c1]
    show F_X6_odds_s119 (F_X6_odds_L119 n) _ _ _ _ _ _ _ _ _ = _
    unfold F_X6_odds_s119
    rw [if_neg (nI_ge (by omega) (by omega)), nI_add, a1, cal2_s, b1, cal3_s]
    have eW : oddsW N mc b x (k + 1) = oddsW N mc b x k + (if (searchA N b (dealP N mc (x + k))).1 < nI 0 then 0 else 1) := rfl
    have eL : oddsL N mc b x (k + 1) = oddsL N mc b x k + (if (searchA N b (dealP N mc (x + k))).1 = -1 then 1 else 0) := rfl
    rw [eW, eL]
    unfold F_X6_odds_b154 F_X6_odds_b170
    by_cases q1 : (searchA N b (dealP N mc (x + k))).1 < nI 0
    · rw [if_pos q1, if_pos q1]
      by_cases q2 : (searchA N b (dealP N mc (x + k))).1 = -1
      · rw [if_pos q2, if_pos q2, nI_add, nI_add, nI_add]
      · rw [if_neg q2, if_neg q2, nI_add, nI_add, nI_add]
    · rw [if_neg q1, if_neg q1]
      by_cases q2 : (searchA N b (dealP N mc (x + k))).1 = -1
      · rw [if_pos q2, if_pos q2, nI_add, nI_add, nI_add]
      · rw [if_neg q2, if_neg q2, nI_add, nI_add, nI_add]
theorem F_odds_arg (I : Nat → Nat → Int32) (L : Nat → Nat → Int64) (v1 v2 v3 v4 : Int32) : F_X6_odds I L v1 v2 v3 v4 = if okOdds v1 v2 v3 v4 = true then F_X6_odds_b46 I L v1 v2 v3 v4 (nI 1) else F_X6_odds_b46 I L v1 v2 v3 v4 (nI 0) := by
  unfold F_X6_odds
  rw [m_inB, cal1_s, bi_if, m_inB, cal1_s, bi_if, m_inB, cal1_s, bi_if, m_inB, cal1_s, bi_if]
  have fal : ∀ {b : Bool}, ¬ b = true → b = false := fun h => by rw [← Bool.not_eq_true]; exact h
  by_cases q1 : inB v1 0 1 = true
  · rw [if_pos q1]
    by_cases q2 : inB v2 0 1000000 = true
    · rw [if_pos q2]
      by_cases q3 : inB v3 1 8 = true
      · rw [if_pos q3]
        by_cases q4 : inB v4 1 200 = true
        · rw [if_pos q4, if_pos (show okOdds v1 v2 v3 v4 = true by unfold okOdds; rw [q1, q2, q3, q4]; rfl)]
        · rw [if_neg q4, if_neg (show ¬ okOdds v1 v2 v3 v4 = true by unfold okOdds; rw [fal q4, Bool.and_false, Bool.and_false, Bool.and_false]; exact Bool.false_ne_true)]
      · rw [if_neg q3, if_neg (show ¬ okOdds v1 v2 v3 v4 = true by unfold okOdds; rw [fal q3, Bool.false_and, Bool.and_false, Bool.and_false]; exact Bool.false_ne_true)]
    · rw [if_neg q2, if_neg (show ¬ okOdds v1 v2 v3 v4 = true by unfold okOdds; rw [fal q2, Bool.false_and, Bool.and_false]; exact Bool.false_ne_true)]
  · rw [if_neg q1, if_neg (show ¬ okOdds v1 v2 v3 v4 = true by unfold okOdds; rw [fal q1, Bool.false_and]; exact Bool.false_ne_true)]
theorem M_odds {A : AS} {I : Nat → Nat → Int32} {L : Nat → Nat → Int64} (hA : okA A) (h : MSt A I L) (v1 v2 v3 v4 : Int32) : MStep (F_X6_odds I L v1 v2 v3 v4) (aOdds A v1 v2 v3 v4) := by
  rw [F_odds_arg]
  unfold aOdds F_X6_odds_b46 F_X6_odds_b59
  rw [if_neg (show ¬ nI 1 = nI 0 by decide), if_pos rfl, well0, well1 _ _ (Or.inl rfl)]
  by_cases q : okOdds v1 v2 v3 v4 = true
  · rw [if_pos q, if_pos q]
    unfold okOdds at q
    simp only [Bool.and_eq_true] at q
    obtain ⟨q1, q2, q3, q4⟩ := q
    obtain ⟨e1, -, b1⟩ := inB_nV (by omega) (by omega) q1
    obtain ⟨e2, -, b2⟩ := inB_nV (by omega) (by omega) q2
    obtain ⟨e3, -, b3⟩ := inB_nV (by omega) (by omega) q3
    obtain ⟨e4, a4, b4⟩ := inB_nV (by omega) (by omega) q4
    have h1 := h.th (nI 0)
    obtain ⟨L1, c1, c2⟩ := m_store (cc := 2) (nn := 8) (o := 0) h1.2.2.1 (hA.wf.kok hA.2.1) (by omega) (by omega) (by omega)
    obtain ⟨I2, d1, d2, d3⟩ := m_odds_79 L1 v1 v2 v3 v4 9 0 FU (st2 I 0 0 (nI 0)) (by omega) (FU_gt (by omega)) (fun i hi => absurd hi (Nat.not_lt_zero i))
    obtain ⟨I3, f1, f2, f3⟩ := m_takeRules (L := L1) (I := I2) (N := A.1) (fun k hk => by rw [d3 0 (by omega)]; exact h1.1 k hk) hA.1
    obtain ⟨I4, L4, g1, g2, g3⟩ := m_odds_119 (N := A.1) (mc := nV v1) (b := nV v4) (x := nV v2) (m := nV v3) (by omega) b2 b3 a4 (by omega) (nV v3) 0 FU I3 L1 (by omega) (FU_gt (by omega)) f2
    rw [← e1, ← e2, ← e3, ← e4] at g1
    obtain ⟨I5, p1, p2, p3⟩ := m_odds_182 L4 (nI (oddsW A.1 (nV v1) (nV v4) (nV v2) (nV v3))) (nI (oddsL A.1 (nV v1) (nV v4) (nV v2) (nV v3))) 9 0 FU I4 (by omega) (FU_gt (by omega)) (fun i hi => absurd hi (Nat.not_lt_zero i))
    obtain ⟨I6, L6, r1, r2, r3, r4⟩ := m_load (I := I5) (L := L4) (cc := 2) (nn := 8) (o := 0) (hA.wf.kok hA.2.1) (by omega) (by omega) (by omega) (fun i hi => by rw [g3.2]; exact c2.1 i hi)
    have z : ∀ j, j ≠ 21 → j ≠ 23 → j ≠ 24 → j ≠ 29 → I6 0 j = st2 I 0 0 (nI 0) 0 j := fun j x1 x2 x3 x4 => by
      rw [r3.2 j x1 x2 x3, p3 0 (by omega), g2.2 j x1 x2 x3 x4, f3 0 (by omega), d3 0 (by omega)]
    refine ⟨I6, L6, ?_, by rw [z 0 (by omega) (by omega) (by omega) (by omega)]; exact th_s _ _, ?_⟩
    · rw [c1, cal1_s, d1]
      unfold F_X6_odds_b106
      rw [f1, cal1_s]
      have g1' := g1
      rw [show oddsW A.1 (nV v1) (nV v4) (nV v2) 0 = 0 from rfl, show oddsL A.1 (nV v1) (nV v4) (nV v2) 0 = 0 from rfl] at g1'
      rw [g1', p1]
      unfold F_X6_odds_b209
      rw [r1, cal2_s, pk_mul, nI_add]
    · refine ⟨fun k hk => ?_, ⟨fun k hk => ?_, hA.2.1⟩, r2, ?_, ?_, ?_, ?_⟩
      · rw [z (k + 1) (by omega) (by omega) (by omega) (by omega)]; exact h1.1 k hk
      · rw [r3.1 1 (by omega), p2 k hk, g2.1 2 (by omega), f3 2 (by omega), d2 k hk]; exact h1.2.1.1 k hk
      · rw [z 13 (by omega) (by omega) (by omega) (by omega)]; exact h1.2.2.2.1
      · rw [z 12 (by omega) (by omega) (by omega) (by omega)]; exact h1.2.2.2.2.1
      · rw [z 14 (by omega) (by omega) (by omega) (by omega)]; exact h1.2.2.2.2.2.1
      · intro i P hi j hj
        rw [r4 1 (by omega), g3.1, c2.2 1 _ (by omega)]
        exact h1.2.2.2.2.2.2 i P hi j hj
  · rw [if_neg q, if_neg q]
    exact ⟨st2 I 0 0 (nI 1), L, rfl, th_s _ _, h.th _⟩
