/-! ===== the second reading: the last card, what comes to a column ===== -/
theorem m_lastOf {I : Nat → Nat → Int32} {L : Nat → Nat → Int64} {R : Nat → Nat} {P : Pos} (h : MRep I L P) (w : WF R P) {p : Nat} (hp : p < 9) (hR6 : R 6 ≤ 8) : F_X6_lastOf I L (nI p) = some (topI (P.1 p)) := by
  have hl := w.1.len p
  have h79 := w.2.2.2.2.2.2.2.1
  unfold F_X6_lastOf
  rcases Nat.lt_or_ge p 5 with q | q
  · rw [if_neg (nI_ge (by omega) (by omega)), rdA_n _ q (by omega), (h.1 p q).2.1]
    cases e : P.1 p with
    | nil => rw [if_pos (nI_le (by simp) (by omega))]; rfl
    | cons c l =>
      have hc := m_cardAt h w.1 q (i := l.length) (by rw [e]; simp)
      rw [e] at hc
      simp only [List.length_cons, Nat.add_sub_cancel, Nat.sub_self, List.getD_cons_zero] at hc
      rw [e] at hl; simp only [List.length_cons] at hl
      rw [if_neg (nI_ge (by simp) (by simp only [List.length_cons]; omega)), rdA_n _ q (by omega), (h.1 p q).2.1, e, pk_sub (by simp), List.length_cons, Nat.add_sub_cancel, hc, cal1_s]
      rfl
  · rw [if_pos (nI_le q (by omega))]
    by_cases q7 : p = 7
    · subst q7
      rw [if_pos (nI_le (by omega) (by omega)), if_pos rfl, h.2.2.2.1.1]
      cases e : P.1 7 with
      | nil => rw [if_pos (nI_le (by simp) (by omega))]; rfl
      | cons c l =>
        have h2 := h.2.2.2.1.2 l.length (by rw [e]; simp)
        rw [e] at h2 hl h79
        simp only [List.length_cons, Nat.add_sub_cancel, Nat.sub_self, List.getD_cons_zero] at h2 hl h79
        rw [if_neg (nI_ge (by simp) (by simp only [List.length_cons]; omega)), pk_sub (by simp), List.length_cons, Nat.add_sub_cancel, rdA_n _ (by omega) (by omega), h2]
        rfl
    · by_cases q8 : p = 8
      · subst q8
        rw [if_pos (nI_le (by omega) (by omega)), if_neg (by decide), w.1.2.2.2.1 8 (Or.inr rfl)]; rfl
      rw [if_neg (nI_ge (by omega) (by omega)), pk_sub q, rdA_n _ (by omega) (by omega), h.2.1 _ (by omega), show 5 + (p - 5) = p by omega]
theorem m_comesTo {I : Nat → Nat → Int32} {L : Nat → Nat → Int64} {R : Nat → Nat} {P : Pos} (h : MRep I L P) (w : WF R P) (hr : RR (I 1) R) {t c : Nat} (ht : t < 5) (hc : c < 16) : F_X6_comesTo I L (nI c) (nI t) = some (bi (decide (t < R 2) && forCol R (P.1 t) c)) := by
  have hR := hr.2
  have hR2 := hr.2
  unfold RulesOk at hR
  have hl := w.1.len t
  have hm := mod_lt1 hR2 c
  unfold F_X6_comesTo
  rw [rdA_n _ (by omega) (by omega), hr.1 2 (by omega)]
  by_cases q : t < R 2
  · rw [if_pos (nI_lt q (by omega)), rdA_n _ ht (by omega), (h.1 t ht).2.1]
    cases e : P.1 t with
    | nil =>
      rw [if_pos (nI_le (by simp) (by omega)), rdA_n _ (by omega) (by omega), hr.1 5 (by omega)]
      simp only [q, decide_true, Bool.true_and]
      show _ = some (bi (emptyB R c))
      unfold emptyB
      by_cases e0 : R 5 = 0
      · rw [if_pos (by rw [e0]), zb1]; simp [e0, bi]
      · rw [if_neg (by rw [nI_eq (by omega) (by omega)]; exact e0), rdA_n _ (by omega) (by omega), hr.1 5 (by omega)]
        by_cases e1 : R 5 = 1
        · rw [if_pos (by rw [e1]), m_rankOf hr hc, cal1_s, rdA_n _ (by omega) (by omega), hr.1 1 (by omega), zb1, zb0, some_bi]
          have e3 : (nI (c % R 1 + 1) = nI (R 1)) ↔ c % R 1 + 1 = R 1 := nI_eq (by omega) (by omega)
          simp [e3, e1]
        · rw [if_neg (by rw [nI_eq (by omega) (by omega)]; exact e1), zb0]; simp [e0, e1, bi]
    | cons o l =>
      have ho16 : o < 16 := w.1.1 t o (by rw [e]; simp)
      have hc2 := m_cardAt h w.1 ht (i := l.length) (by rw [e]; simp)
      rw [e] at hc2 hl
      simp only [List.length_cons, Nat.add_sub_cancel, Nat.sub_self, List.getD_cons_zero] at hc2 hl
      rw [if_neg (nI_ge (by simp) (by simp only [List.length_cons]; omega)), rdA_n _ ht (by omega), (h.1 t ht).2.1, e, pk_sub (by simp), List.length_cons, Nat.add_sub_cancel, hc2, cal1_s, m_fits hr hc ho16, cal1_s, zb_bi]
      simp [q, forCol]
  · rw [if_neg (nI_nlt (by omega) (by omega)), zb0]
    simp [q, bi]
