/-! ===== the second reading: isMove is legal ===== -/
theorem m_isMove {I : Nat → Nat → Int32} {L : Nat → Nat → Int64} {R : Nat → Nat} {P : Pos} (h : MRep I L P) (w : WF R P) (hr : RR (I 1) R) {f t n : Nat} (hf : f < 10) (ht : t < 9) (hn : 1 ≤ n) (hn16 : n ≤ 16) (h1 : n = 1 ∨ (f < 5 ∧ t < 5)) : F_X6_isMove I L (nI f) (nI t) (nI n) = some (bi (legal R P f t n)) := by
  have hR := hr.2
  unfold RulesOk at hR
  have h79 := w.2.2.2.2.2.2.2
  unfold F_X6_isMove
  by_cases f9 : f = 9
  · subst f9
    have n1 : n = 1 := by omega
    subst n1
    have hl7 := w.1.len 7
    rw [if_pos rfl]
    unfold legal
    rw [if_pos rfl]
    by_cases t7 : t = 7
    · subst t7
      rw [if_pos rfl, if_pos rfl, h.2.2.2.2.1.1, h.2.2.2.1.1, zb1, zb0]
      cases e9 : P.1 9 with
      | cons c l =>
        have := w.1.len 9
        rw [e9] at this
        rw [if_pos (nI_lt (by simp) (by omega))]; rfl
      | nil =>
        rw [if_neg (nI_nlt (by simp) (by omega))]
        cases e7 : P.1 7 with
        | nil => rw [if_pos (nI_le (by simp) (by omega))]; rfl
        | cons c l =>
          rw [e7] at hl7
          rw [if_neg (nI_ge (by simp) (by omega)), rdA_n _ (by omega) (by omega), hr.1 7 (by omega), h.2.2.2.2.2]
          by_cases q : P.2.2.2 < R 7
          · rw [if_neg (nI_ge (by omega) (by omega))]; simp [q, bi]
          · rw [if_pos (nI_le (by omega) (by omega))]; simp [q, bi]
    · rw [if_neg (by rw [nI_eq (by omega) (by omega)]; exact t7), zb0, decide_eq_false t7]; rfl
  · rw [if_neg (by rw [nI_eq (by omega) (by omega)]; exact f9)]
    by_cases q : f < 5 ∧ t < 5
    · obtain ⟨q1, q2⟩ := q
      rw [if_neg (nI_ge q1 (by omega)), if_neg (nI_ge q2 (by omega)), zb0, zb1]
      by_cases e : f = t
      · rw [if_pos (by rw [e])]
        subst e
        unfold legal
        rw [if_neg (by omega)]
        cases P.1 f with
        | nil => rfl
        | cons c l => dsimp only; rw [if_neg (by omega), if_neg (by omega), if_pos q1]; simp [bi]
      · rw [if_neg (by rw [nI_eq (by omega) (by omega)]; exact e), m_isRow h w hr q1 q2 hn hn16, cal1_s]
        have ef : rowEnd R P f t n (isRun R (P.1 f) (P.2.1 f) n) = legal R P f t n := by
          unfold legal rowEnd
          rw [if_neg (by omega)]
          cases e2 : P.1 f with
          | nil =>
            have : isRun R [] (P.2.1 f) n = false := by unfold isRun; rw [decide_eq_false (by simp; omega)]; rfl
            rw [this]; rfl
          | cons c l =>
            dsimp only
            rw [if_neg (by omega), if_neg (by omega), if_pos q2, if_pos q1, decide_eq_true e, Bool.true_and]
            cases isRun R (c :: l) (P.2.1 f) n <;> cases decide (n ≤ most R P t) <;> cases decide (t < R 2) <;> rfl
        rw [ef]
        cases legal R P f t n <;> rfl
    · have n1 : n = 1 := by omega
      subst n1
      have fin : F_X6_isMove_b82 I L (nI f) (nI t) (nI 1) = some (bi (legal R P f t 1)) := by
        unfold F_X6_isMove_b82
        rw [m_lastOf h w (by omega) (by omega), cal1_s, if_pos rfl]
        unfold legal
        rw [if_neg f9]
        cases e : P.1 f with
        | nil => rw [if_pos (show topI [] = (-1 : Int32) from rfl), zb0]; rfl
        | cons c l =>
          have hm : c ∈ P.1 f := by rw [e]; simp
          have hc16 := w.1.1 f c hm
          have hcn := w.2.2.2.1 f c hm
          have hmod := mod_lt1 hr.2 c
          have hup := w.2.2.2.2.2.1 (c / R 1)
          rw [show topI (c :: l) = nI c from rfl, if_neg (by rw [nI_negone (by omega)]; exact id)]
          dsimp only
          by_cases t8 : t = 8
          · subst t8
            have hs : c / R 1 < R 0 := (Nat.div_lt_iff_lt_mul (by omega)).mpr hcn.1
            rw [if_pos rfl, if_pos rfl, m_rankOf hr hc16, cal1_s, m_suitOf hr hc16, cal1_s, rdA_n _ (by omega) (by omega), h.2.2.1 _ (by omega), nI_add, zb0, zb1, some_bi]
            have e2 : (nI (c % R 1 + 1) = nI (P.2.2.1 (c / R 1) + 1)) ↔ c % R 1 = P.2.2.1 (c / R 1) := by rw [nI_eq (by omega) (by omega)]; omega
            simp only [e2]
          · rw [if_neg (by rw [nI_eq (by omega) (by omega)]; exact t8), if_neg t8]
            unfold F_X6_in
            have e157 : t = 5 ∨ t = 6 → F_X6_isMove_b157 I L (nI t) = some (bi (decide (t - 5 < R 3) && (P.1 t).isEmpty)) := by
              intro ht2
              unfold F_X6_isMove_b157
              rw [rdA_n _ (by omega) (by omega), hr.1 3 (by omega), pk_sub (by omega), zb0, zb1]
              by_cases z : t - 5 < R 3
              · have ez := topI_m1 (P.1 t) (w.1.1 t)
                rw [if_neg (nI_ge z (by omega)), rdA_n _ (by omega) (by omega), h.2.1 _ (by omega), show 5 + (t - 5) = t by omega, some_bi]
                simp only [ez, z, decide_true, Bool.true_and, Bool.decide_eq_true]
              · rw [if_pos (nI_le (by omega) (by omega))]; simp [z, bi]
            by_cases t56 : t = 5 ∨ t = 6
            · rw [if_neg (nI_nlt (by omega) (by omega)), if_neg (nI_nlt (by omega) (by omega)), zb1, cal1_s, if_neg (by decide), if_pos t56]
              rw [e157 t56]
              by_cases f5 : f < 5
              · rw [if_pos (nI_lt f5 (by omega))]; simp [f5]
              · rw [if_neg (nI_nlt (by omega) (by omega))]
                by_cases f7 : f = 7
                · rw [if_pos (by rw [f7])]; simp [f7]
                · rw [if_neg (by rw [nI_eq (by omega) (by omega)]; exact f7), zb0]; simp [f5, f7, bi]
            · rw [if_neg t56]
              have ein : (if nI t < nI 5 then zb (nI 0) (some (nI 0)) else if nI 6 < nI t then zb (nI 0) (some (nI 0)) else zb (nI 1) (some (nI 1))) = some (nI 0) := by
                by_cases t5 : t < 5
                · rw [if_pos (nI_lt t5 (by omega))]; rfl
                · rw [if_neg (nI_nlt (by omega) (by omega)), if_pos (nI_lt (by omega) (by omega))]; rfl
              rw [ein, cal1_s, if_pos rfl]
              by_cases t5 : t < 5
              · have f5 : 5 ≤ f := by omega
                rw [if_neg (nI_ge t5 (by omega)), m_comesTo h w hr t5 hc16, cal1_s, if_pos t5, if_neg (show ¬ f < 5 by omega), zb0, zb1, decide_eq_true (show f ≠ t by omega), Bool.true_and]
                cases (decide (t < R 2) && forCol R (P.1 t) c) <;> rfl
              · rw [if_pos (nI_le (by omega) (by omega)), if_neg t5, zb0]; rfl
      rw [fin]
      rcases Nat.lt_or_ge f 5 with q5 | q5
      · rw [if_neg (nI_ge q5 (by omega)), if_pos (nI_le (by omega) (by omega))]
      · rw [if_pos (nI_le q5 (by omega))]
