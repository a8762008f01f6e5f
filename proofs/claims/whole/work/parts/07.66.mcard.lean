/-! ===== the second reading: what card tells ===== -/
def cardA (R : Nat → Nat) (P : Pos) (p d : Nat) : Int32 := if p < 5 then seenA P p d else if p = 8 then highA R P d else optI (P.1 p)[d]?
theorem m_card156 {I : Nat → Nat → Int32} {L : Nat → Nat → Int64} {P : Pos} (h : MRep I L P) (hk : KOk P) {p d : Nat} (hp : p = 7 ∨ p = 9) (hd : d < 2 ^ 31) : F_X6_card_b156 L I (nI p) (nI d) (nI (P.1 p).length) = some (optI (P.1 p)[d]?, I) := by
  have h8 := hk.2.2.2.1
  have hlen : (P.1 p).length ≤ 8 := by rcases hp with z | z <;> subst z <;> omega
  unfold F_X6_card_b156
  by_cases q : d < (P.1 p).length
  · have e : optI (P.1 p)[d]? = nI ((P.1 p).getD d 0) := by
      rw [List.getD_eq_getElem?_getD, List.getElem?_eq_getElem q]; rfl
    rw [if_pos (nI_lt q (by omega)), pk_sub (by omega), pk_sub (by omega), e]
    rcases hp with z | z
    · subst z
      have := h.2.2.2.1.2 ((P.1 7).length - 1 - d) (by omega)
      rw [show (P.1 7).length - 1 - ((P.1 7).length - 1 - d) = d by omega] at this
      rw [if_pos rfl, rdA_n _ (by omega) (by omega), this]
    · subst z
      have := h.2.2.2.2.1.2 ((P.1 9).length - 1 - d) (by omega)
      rw [show (P.1 9).length - 1 - ((P.1 9).length - 1 - d) = d by omega] at this
      rw [if_neg (show ¬ nI 9 = nI 7 by decide), rdA_n _ (by omega) (by omega), this]
  · rw [if_neg (nI_nlt (by omega) (by omega)), List.getElem?_eq_none (by omega)]; rfl
theorem m_card {I : Nat → Nat → Int32} {L : Nat → Nat → Int64} {R : Nat → Nat} {P : Pos} (h : MRep I L P) (w : WF R P) (hr : RR (I 1) R) {p d : Nat} (hp : p < 10) (hd : d < 2 ^ 31) : F_X6_card L I (nI p) (nI d) = some (cardA R P p d, st2 I 0 0 (nI 0)) := by
  have hR := hr.2
  have hk := w.kok hr.2
  unfold RulesOk at hR
  have h' := h.st0 (k := 0) (by omega) (nI 0)
  have hr' := st0_rr hr 0 (nI 0)
  unfold F_X6_card F_X6_card_b20
  rw [m_in, cal1_s, decide_eq_true (show nI 0 ≤ nI p from nI_le (Nat.zero_le _) (by omega)), decide_eq_true (show nI p ≤ nI 9 from nI_le (by omega) (by omega)), if_neg (show ¬ bi (true && true) = nI 0 by decide), if_neg (show ¬ nI d < nI 0 from nI_nlt (Nat.zero_le _) (by omega)), m_goesWell, cal2_s, decide_eq_true rfl, if_neg (show ¬ bi true = nI 0 by decide)]
  generalize st2 I 0 0 (nI 0) = J at h' hr' ⊢
  unfold cardA
  by_cases p5 : p < 5
  · have hl := hk.1.len p
    have hh := hk.1.2.2.2.2.1 p
    obtain ⟨a1, a2, a3⟩ := h'.1 p p5
    rw [if_neg (show ¬ nI 5 ≤ nI p from nI_ge p5 (by omega)), if_pos p5, rdA_n _ p5 (by omega), a2]
    unfold seenA
    by_cases q : d < (P.1 p).length
    · rw [if_pos (show nI d < nI (P.1 p).length from nI_lt q (by omega)), if_pos q, rdA_n _ p5 (by omega), a3]
      by_cases q2 : d < P.2.1 p
      · rw [if_neg (show ¬ nI (P.2.1 p) ≤ nI d from nI_ge q2 (by omega)), if_pos q2]
      · rw [if_pos (show nI (P.2.1 p) ≤ nI d from nI_le (by omega) (by omega)), if_neg q2, m_cardAt h' hk.1 p5 q, cal1_s, List.getD_eq_getElem?_getD, List.getElem?_eq_getElem (show (P.1 p).length - 1 - d < (P.1 p).length by omega)]; rfl
    · rw [if_neg (show ¬ nI d < nI (P.1 p).length from nI_nlt (by omega) (by omega)), if_neg q]
  · rw [if_pos (show nI 5 ≤ nI p from nI_le (by omega) (by omega)), if_neg p5]
    by_cases p7 : 7 ≤ p
    · rw [if_pos (show nI 7 ≤ nI p from nI_le p7 (by omega))]
      by_cases p8 : p = 8
      · subst p8
        rw [if_pos rfl, if_pos rfl, rdA_n _ (by omega) (by omega), hr'.1 0 (by omega)]
        unfold highA
        by_cases q : d < R 0
        · have hu := w.2.2.2.2.2.1 d
          have hm : d * R 1 ≤ 4 * 6 := Nat.mul_le_mul (by omega) (by omega)
          rw [if_neg (show ¬ nI (R 0) ≤ nI d from nI_ge q (by omega)), rdA_n _ (by omega) (by omega), h'.2.2.1 d (by omega)]
          by_cases q2 : 0 < P.2.2.1 d
          · rw [if_neg (show ¬ nI (P.2.2.1 d) ≤ nI 0 from nI_ge q2 (by omega)), if_pos ⟨q, q2⟩, rdA_n _ (by omega) (by omega), hr'.1 1 (by omega), rdA_n _ (by omega) (by omega), h'.2.2.1 d (by omega), pk_mul, nI_add, pk_sub (by omega)]
          · rw [if_pos (show nI (P.2.2.1 d) ≤ nI 0 from nI_le (by omega) (by omega)), if_neg (fun y => q2 y.2)]
        · rw [if_pos (show nI (R 0) ≤ nI d from nI_le (by omega) (by omega)), if_neg (fun y => q y.1)]
      · rw [if_neg (show ¬ nI p = nI 8 by rw [nI_eq (by omega) (by omega)]; exact p8), if_neg p8]
        by_cases p77 : p = 7
        · subst p77
          rw [if_pos rfl, h'.2.2.2.1.1]; exact m_card156 h' hk (Or.inl rfl) hd
        · have : p = 9 := by omega
          subst this
          rw [if_neg (show ¬ nI 9 = nI 7 by decide), h'.2.2.2.2.1.1]; exact m_card156 h' hk (Or.inr rfl) hd
    · rw [if_neg (show ¬ nI 7 ≤ nI p from nI_ge (by omega) (by omega)), if_neg (show ¬ p = 8 by omega)]
      have hl : (P.1 p).length ≤ 1 := by
        have := hk.2.1 (p - 5) (by omega)
        rwa [show 5 + (p - 5) = p by omega] at this
      by_cases q : d = 0
      · subst q
        rw [if_pos rfl, pk_sub (by omega), rdA_n _ (by omega) (by omega), h'.2.1 (p - 5) (by omega), show 5 + (p - 5) = p by omega, topI_opt]
      · rw [if_neg (show ¬ nI d = nI 0 by rw [nI_eq (by omega) (by omega)]; exact q), List.getElem?_eq_none (by omega)]; rfl
