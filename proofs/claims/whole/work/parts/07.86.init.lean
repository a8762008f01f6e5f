/-! ===== at first ===== -/
def R0 : Nat → Nat := fun k => if k = 0 then 2 else if k = 1 then 4 else if k = 2 then 3 else if k = 3 then 1 else if k = 4 then 1 else 0
def A0 : AS := (R0, R0, [dealP R0 0 0], 0, nI 0, 0, 0)
theorem R0_ok : RulesOk R0 := by unfold RulesOk; decide
theorem A0_ok : okA A0 := by
  refine ⟨R0_ok, R0_ok, Nat.le_refl 1, show 1 ≤ 201 by omega, fun P hP => ?_, rfl, show 0 < 2 by omega, show 0 < 2147483648 by omega⟩
  have hP : P ∈ [dealP R0 0 0] := hP
  rw [List.mem_singleton] at hP
  rw [hP]
  exact wf_dealP R0_ok (by omega)
theorem C_init {rul P : Nat → Int32} (hr : RR rul R0) (h9 : P 9 = nI 0) (D T : Nat → Nat → Int32) (S : Nat → Nat → Int64) : ∃ P' D' T', F_X5_dealNumber rul P D T (nI 0) (nI 0) = some (P', D', T') ∧ CSt A0 P' rul rul D' T' S := by
  obtain ⟨D', d1, d2⟩ := s_draw (mc := 0) (x := 0) (by omega) hr.2 D
  obtain ⟨T', f1, f2, -⟩ := s_lay hr d2 T
  unfold F_X5_dealNumber
  rw [s_cards hr, cal1_s, d1, cal1_s, f1, cal1_s, bnd_s, bnd_s]
  refine ⟨_, D', T', rfl, hr, hr, f2, ?_, ?_, ?_, ?_, d2⟩
  · rw [upd_s, if_neg (by omega), upd_s, if_pos rfl]; rfl
  · rw [upd_s, if_pos rfl]; rfl
  · rw [upd_s, if_neg (by omega), upd_s, if_neg (by omega)]; exact h9
  · intro i Q hi hl
    exact absurd hl (by show ¬ i + 1 < 1; omega)
theorem M_init {I : Nat → Nat → Int32} (hN : ∀ k, k < 9 → I 0 (k + 1) = nI (R0 k)) (h13 : I 0 13 = nI 0) (h12 : I 0 12 = nI 0) (h14 : I 0 14 = nI 0) (L : Nat → Nat → Int64) : ∃ I1 I2 L2 L3, F_X6_takeRules L I = some I1 ∧ F_X6_lay I1 L (nI 0) (nI 0) = some (I2, L2) ∧ F_X6_store I2 1 1616 L2 (nI 0) = some L3 ∧ MSt A0 I2 L3 := by
  obtain ⟨I1, a1, a2, a3⟩ := m_takeRules (L := L) hN R0_ok
  obtain ⟨I2, L2, c1, c2, c3, c4⟩ := m_lay (mc := 0) (x := 0) (I := I1) (L := L) (by omega) (by omega) a2 (deal_inv R0_ok (by omega))
  have w : WF R0 (dealP R0 0 0) := wf_dealP R0_ok (by omega)
  obtain ⟨L3, d1, d2⟩ := m_store (cc := 1) (nn := 1616) (o := 0) c2 (w.kok R0_ok) (by omega) (by omega) (by omega)
  have z : ∀ j, j ≠ 21 → j ≠ 23 → j ≠ 24 → I2 0 j = I 0 j := fun j x1 x2 x3 => by rw [c3.2 j x1 x2 x3, a3 0 (by omega)]
  refine ⟨I1, I2, L2, L3, a1, c1, d1, ?_⟩
  refine ⟨fun k hk => ?_, ?_, c2.atL (funext fun j => d2.2 0 j (by omega)), ?_, ?_, ?_, ?_⟩
  · rw [z (k + 1) (by omega) (by omega) (by omega)]; exact hN k hk
  · rw [c3.1 1 (by omega)]; exact a2
  · rw [z 13 (by omega) (by omega) (by omega)]; exact h13
  · rw [z 12 (by omega) (by omega) (by omega)]; exact h12
  · rw [z 14 (by omega) (by omega) (by omega)]; exact h14
  · intro i P hi j hj
    have hi : [dealP R0 0 0][i]? = some P := hi
    have h0 := (List.getElem?_eq_some_iff.mp hi).1
    simp only [List.length_cons, List.length_nil] at h0
    obtain rfl : i = 0 := by omega
    simp only [List.getElem?_cons_zero, Option.some.injEq] at hi
    subst hi
    exact d2.1 j hj
