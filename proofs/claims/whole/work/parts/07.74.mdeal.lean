/-! ===== the second reading: deal, move, undo, safe ===== -/
theorem m_takeRules {I : Nat → Nat → Int32} {L : Nat → Nat → Int64} {N : Nat → Nat} (hN : ∀ k, k < 9 → I 0 (k + 1) = nI (N k)) (rN : RulesOk N) :
    ∃ I', F_X6_takeRules L I = some I' ∧ RR (I' 1) N ∧ ∀ a, a ≠ 1 → I' a = I a := by
  have n8 : N 8 ≤ 1 := rN.2.2.2.2.2.2.2.2.2.2.2.2.2.2
  have g : ∀ x : Int32, x = nI (N 8) → ∃ I', F_X6_takeRules_b100 L (st2 (st2 (st2 (st2 (st2 (st2 (st2 (st2 I 1 0 (I 0 1)) 1 1 (I 0 2)) 1 2 (I 0 3)) 1 3 (I 0 4)) 1 4 (I 0 5)) 1 5 (I 0 6)) 1 6 (I 0 7)) 1 7 (I 0 8)) (nI 8) x = some I' ∧ RR (I' 1) N ∧ ∀ a, a ≠ 1 → I' a = I a := by
    intro x hx
    unfold F_X6_takeRules_b100
    rw [wrA_n _ (by omega) (by omega)]
    refine ⟨_, rfl, ⟨fun k hk => ?_, rN⟩, fun a ha => funext fun j => ?_⟩
    · simp only [st2_s]
      have hk' : k = 0 ∨ k = 1 ∨ k = 2 ∨ k = 3 ∨ k = 4 ∨ k = 5 ∨ k = 6 ∨ k = 7 ∨ k = 8 := by omega
      rcases hk' with rfl | rfl | rfl | rfl | rfl | rfl | rfl | rfl | rfl
      · simp; exact hN 0 (by omega)
      · simp; exact hN 1 (by omega)
      · simp; exact hN 2 (by omega)
      · simp; exact hN 3 (by omega)
      · simp; exact hN 4 (by omega)
      · simp; exact hN 5 (by omega)
      · simp; exact hN 6 (by omega)
      · simp; exact hN 7 (by omega)
      · simp; exact hx
    · simp only [st2_s, ha, false_and, if_false]
  unfold F_X6_takeRules
  rw [wrA_n _ (by omega) (by omega), wrA_n _ (by omega) (by omega), wrA_n _ (by omega) (by omega), wrA_n _ (by omega) (by omega), wrA_n _ (by omega) (by omega), wrA_n _ (by omega) (by omega), wrA_n _ (by omega) (by omega), wrA_n _ (by omega) (by omega)]
  have r0 : ∀ (k : Nat) (x : Int32) (J : Nat → Nat → Int32) (j : Nat), st2 J 1 k x 0 j = J 0 j := fun k x J j => by rw [st2_s, if_neg (by omega)]
  simp only [r0]
  have e9 : I 0 9 = nI (N 8) := hN 8 (by omega)
  by_cases q : I 0 9 = nI 0
  · rw [if_pos q]; exact g _ (q.symm.trans e9)
  · rw [if_neg q]
    refine g _ ?_
    have : N 8 = 1 := by
      rcases Nat.lt_or_ge (N 8) 1 with z | z
      · exact absurd (e9.trans (by rw [show N 8 = 0 by omega])) q
      · omega
    rw [this]
theorem MRep.off1 {I I' : Nat → Nat → Int32} {L : Nat → Nat → Int64} {P : Pos} (h : MRep I L P) (g : ∀ a, a ≠ 1 → I' a = I a) : MRep I' L P := by
  refine ⟨fun p hp => ?_, fun j hj => ?_, fun s hs => ?_, ⟨?_, fun i hi => ?_⟩, ⟨?_, fun i hi => ?_⟩, ?_⟩
  · rw [g 3 (by omega), g 4 (by omega)]; exact h.1 p hp
  · rw [g 5 (by omega)]; exact h.2.1 j hj
  · rw [g 6 (by omega)]; exact h.2.2.1 s hs
  · rw [g 0 (by omega)]; exact h.2.2.2.1.1
  · rw [g 7 (by omega)]; exact h.2.2.2.1.2 i hi
  · rw [g 0 (by omega)]; exact h.2.2.2.2.1.1
  · rw [g 8 (by omega)]; exact h.2.2.2.2.1.2 i hi
  · rw [g 0 (by omega)]; exact h.2.2.2.2.2
theorem cur_one (P : Pos) : cur [P] = P := rfl
theorem cur_app (l : List Pos) (P : Pos) : cur (l ++ [P]) = P := by unfold cur; rw [List.getLast?_append]; rfl
def okDeal (v1 v2 : Int32) : Bool := inB v1 0 1 && inB v2 0 1000000
def aDeal (A : AS) (v1 v2 : Int32) : Nat × Int32 × AS := if okDeal v1 v2 = true then (0, nI (A.1 0 * A.1 1) - nI (A.1 6), (A.1, A.1, [dealP A.1 (nV v1) (nV v2)], 0, A.2.2.2.2.1 + moneyA (cur A.2.2.1) (A.2.2.1.length - 1) A.2.2.2.1, nV v1, nV v2)) else (1, nI 0, A)
theorem wf_dealP {R : Nat → Nat} (hR : RulesOk R) {mc x : Nat} (hm : mc < 2) : WF R (dealP R mc x) := wf_deal hR (deal_inv hR hm)
theorem M_deal {A : AS} {I : Nat → Nat → Int32} {L : Nat → Nat → Int64} (hA : okA A) (h : MSt A I L) (v1 v2 : Int32) :
    okA (aDeal A v1 v2).2.2 ∧ MStep (F_X6_deal I L v1 v2) (aDeal A v1 v2) := by
  unfold aDeal
  by_cases q : okDeal v1 v2 = true
  · rw [if_pos q]
    have q' := q
    unfold okDeal at q'
    rw [Bool.and_eq_true] at q'
    obtain ⟨e1, -, b1⟩ := inB_nV (by omega) (by omega) q'.1
    obtain ⟨e2, -, b2⟩ := inB_nV (by omega) (by omega) q'.2
    have hm : nV v1 < 2 := by omega
    have w := wf_dealP hA.1 hm (x := nV v2)
    refine ⟨⟨hA.1, hA.1, Nat.le_refl 1, show 1 ≤ 201 by omega, fun P hP => ?_, rfl, hm, show nV v2 < 2147483648 by omega⟩, ?_⟩
    · rw [List.mem_singleton] at hP; rw [hP]; exact w
    have h1 := h.th (nI 0)
    obtain ⟨I1, a1, a2, a3⟩ := m_takeRules (L := L) (I := st2 (st2 I 0 0 (nI 0)) 0 14 (A.2.2.2.2.1 + moneyA (cur A.2.2.1) (A.2.2.1.length - 1) A.2.2.2.1)) (N := A.1) (fun k hk => by rw [st2_s, if_neg (by omega)]; exact h1.1 k hk) hA.1
    obtain ⟨I2, L2, c1, c2, c3, c4⟩ := m_lay (I := I1) (L := L) hm (show nV v2 < 2147483648 by omega) a2 (deal_inv hA.1 hm)
    have hC := (c2.st0 (k := 13) (by omega) (nI 0)).st0 (k := 12) (by omega) (nI 0)
    obtain ⟨L3, d1, d2⟩ := m_store (cc := 1) (nn := 1616) (o := 0) hC (w.kok hA.1) (by omega) (by omega) (by omega)
    have r1 : ∀ k, st2 (st2 I2 0 13 (nI 0)) 0 12 (nI 0) 1 k = I1 1 k := fun k => by rw [st2_s, if_neg (by omega), st2_s, if_neg (by omega), c3.1 1 (by omega)]
    have x0 : ∀ j, j ≤ 14 → j ≠ 12 → j ≠ 13 → st2 (st2 I2 0 13 (nI 0)) 0 12 (nI 0) 0 j = st2 (st2 I 0 0 (nI 0)) 0 14 (A.2.2.2.2.1 + moneyA (cur A.2.2.1) (A.2.2.1.length - 1) A.2.2.2.1) 0 j := fun j h1 h2 h3 => by
      rw [st2_s, if_neg (by omega), st2_s, if_neg (by omega), c3.2 j (by omega) (by omega) (by omega), a3 0 (by omega)]
    refine ⟨st2 (st2 I2 0 13 (nI 0)) 0 12 (nI 0), L3, ?_, ?_, ?_⟩
    · unfold F_X6_deal F_X6_deal_b25
      rw [well0, m_inB, cal1_s, bi_if, if_pos q'.1, m_inB, cal1_s, bi_if, if_pos q'.2, m_money h1.2.2.1 h1.2.2.2.1 h1.2.2.2.2.1, cal1_s, bnd_s, h1.2.2.2.2.2.1, a1, cal1_s]
      rw [← e1, ← e2] at c1
      rw [c1, cal2_s, bnd_s, bnd_s, d1, cal1_s, rdA_n _ (by omega) (by omega), rdA_n _ (by omega) (by omega), rdA_n _ (by omega) (by omega), r1, r1, r1, a2.1 0 (by omega), a2.1 1 (by omega), a2.1 6 (by omega), pk_mul]
    · rw [x0 0 (by omega) (by omega) (by omega), st2_s, if_neg (by omega)]; exact th_s _ _
    · refine ⟨fun k hk => ?_, ⟨fun k hk => by rw [r1]; exact a2.1 k hk, hA.1⟩, hC.atL (funext fun j => d2.2 0 j (by omega)), ?_, ?_, ?_, ?_⟩
      · by_cases k11 : k = 11 ∨ k = 12
        · omega
        · rw [x0 (k + 1) (by omega) (by omega) (by omega), st2_s, if_neg (by omega)]; exact h1.1 k hk
      · rw [st2_s, if_neg (by omega), st2_s, if_pos ⟨rfl, rfl⟩]; rfl
      · rw [st2_s, if_pos ⟨rfl, rfl⟩]
      · rw [x0 14 (by omega) (by omega) (by omega), st2_s, if_pos ⟨rfl, rfl⟩]
      · intro i P hi j hj
        have h0 := (List.getElem?_eq_some_iff.mp hi).1
        simp only [List.length_cons, List.length_nil] at h0
        obtain rfl : i = 0 := by omega
        simp only [List.getElem?_cons_zero, Option.some.injEq] at hi
        subst hi
        exact d2.1 j hj
  · rw [if_neg q]
    refine ⟨hA, st2 I 0 0 (nI 1), L, ?_, th_s _ _, h.th _⟩
    unfold okDeal at q
    unfold F_X6_deal F_X6_deal_b25
    rw [well1 _ _ (Or.inl rfl), m_inB, cal1_s, bi_if, m_inB, cal1_s, bi_if]
    cases q1 : inB v1 0 1
    · rw [if_neg Bool.false_ne_true]
    · cases q2 : inB v2 0 1000000
      · rw [if_pos rfl, if_neg Bool.false_ne_true]
      · rw [q1, q2] at q; exact absurd rfl q
