/-! ===== at first ===== -/
def R0 : Nat → Nat := fun k => if k = 0 then 2 else if k = 1 then 4 else if k = 2 then 3 else if k = 3 then 1 else if k = 4 then 1 else 0
def A0 : AS := (R0, R0, [dealP R0 0 0], 0, nI 0, 0, 0)
theorem R0_ok : RulesOk R0 := by unfold RulesOk; decide
theorem A0_ok : okA A0 := by
  refine ⟨R0_ok, R0_ok, Nat.le_refl 1, show 1 ≤ 201 by omega, fun P hP => ?_, rfl, show 0 < 2 by omega, show 0 < 2147483648 by omega⟩
  have hP : P ∈ [dealP R0 0 0] := hP
  rw [List.mem_singleton] at hP
  rw [hP]
  exact wf_dealP R0_ok (by omega)
theorem C_init {rul P : Nat → Int32} (hr : RR rul R0) (h9 : P 9 = nI 0) (D T : Nat → Nat → Int32) (S : Nat → Nat → Int64) : ∃ P' D' T', F_X5_dealNumber rul P D T (nI 0) (nI 0) = some (P', D', T') ∧ CSt A0 P' rul rul D' T' S := by
  obtain ⟨D', d1, d2⟩ := s_draw (mc := 0) (x := 0) (by omega) hr.2 D
  obtain ⟨T', f1, f2, -⟩ := s_lay hr d2 T
  unfold F_X5_dealNumber
  rw [s_cards hr, cal1_s, d1, cal1_s, f1, cal1_s, bnd_s, bnd_s]
  refine ⟨_, D', T', rfl, hr, hr, f2, ?_, ?_, ?_, ?_, d2⟩
  · rw [upd_s, if_neg (by omega), upd_s, if_pos rfl]; rfl
  · rw [upd_s, if_pos rfl]; rfl
  · rw [upd_s, if_neg (by omega), upd_s, if_neg (by omega)]; exact h9
  · intro i Q hi hl
    exact absurd hl (by show ¬ i + 1 < 1; omega)
