/-! ===== the second reading: what told tells ===== -/
def moneyA (P : Pos) (done undone : Nat) : Int32 := (nI 5 * nI (upN P) - nI done) - nI 2 * nI undone
def hidN (P : Pos) : Nat := P.2.1 0 + P.2.1 1 + P.2.1 2 + P.2.1 3 + P.2.1 4
def toldA (R : Nat → Nat) (P : Pos) (done undone : Nat) (older : Int32) (k : Nat) : Int32 :=
  if k = 0 then nI (upN P) else if k = 1 then nI done else if k = 2 then nI undone else if k = 3 then nI P.2.2.2 else if k = 4 then moneyA P done undone else if k = 5 then older + moneyA P done undone else if k = 6 then bi (wonB R P) else nI (hidN P)
theorem m_money {I : Nat → Nat → Int32} {L : Nat → Nat → Int64} {P : Pos} (h : MRep I L P) {done undone : Nat} (h13 : I 0 13 = nI done) (h12 : I 0 12 = nI undone) : F_X6_money I L = some (moneyA P done undone) := by
  unfold F_X6_money
  rw [m_atHome h, cal1_s, h13, h12]; rfl
theorem m_told {I : Nat → Nat → Int32} {L : Nat → Nat → Int64} {R : Nat → Nat} {P : Pos} (h : MRep I L P) (w : WF R P) (hr : RR (I 1) R) {done undone : Nat} (h13 : I 0 13 = nI done) (h12 : I 0 12 = nI undone) {k : Nat} (hk : k < 8) : F_X6_told L I (nI k) = some (toldA R P done undone (I 0 14) k, st2 I 0 0 (nI 0)) := by
  have h' := h.st0 (k := 0) (by omega) (nI 0)
  have hr' := st0_rr hr 0 (nI 0)
  have a13 : st2 I 0 0 (nI 0) 0 13 = nI done := by rw [st2_s, if_neg (by omega)]; exact h13
  have a12 : st2 I 0 0 (nI 0) 0 12 = nI undone := by rw [st2_s, if_neg (by omega)]; exact h12
  have a14 : st2 I 0 0 (nI 0) 0 14 = I 0 14 := by rw [st2_s, if_neg (by omega)]
  unfold F_X6_told F_X6_told_b16
  rw [m_in, cal1_s, decide_eq_true (show nI 0 ≤ nI k from nI_le (Nat.zero_le _) (by omega)), decide_eq_true (show nI k ≤ nI 7 from nI_le (by omega) (by omega)), if_neg (show ¬ bi (true && true) = nI 0 by decide), m_goesWell, cal2_s, decide_eq_true rfl, if_neg (show ¬ bi true = nI 0 by decide), ← a14]
  generalize st2 I 0 0 (nI 0) = J at h' hr' a13 a12 ⊢
  unfold toldA
  have e : ∀ j, j < 8 → ((nI k = nI j) ↔ k = j) := fun j hj => nI_eq (by omega) (by omega)
  rw [m_atHome h', cal1_s, m_money h' a13 a12, cal1_s, cal1_s, m_isWon h' w hr', cal1_s, a13, a12, h'.2.2.2.2.2, rdA_n _ (by omega) (by omega), rdA_n _ (by omega) (by omega), rdA_n _ (by omega) (by omega), rdA_n _ (by omega) (by omega), rdA_n _ (by omega) (by omega), (h'.1 0 (by omega)).2.2, (h'.1 1 (by omega)).2.2, (h'.1 2 (by omega)).2.2, (h'.1 3 (by omega)).2.2, (h'.1 4 (by omega)).2.2, nI_add, nI_add, nI_add, nI_add]
  simp only [e 0 (by omega), e 1 (by omega), e 2 (by omega), e 3 (by omega), e 4 (by omega), e 5 (by omega), e 6 (by omega)]
  repeat' split
  all_goals first | rfl | (simp_all [bi]) | omega
