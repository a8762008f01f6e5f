/-! ===== the second reading: a position gone on from ===== -/
theorem expA_cons {R : Nat → Nat} {b : Nat} {P : Pos} {m : Nat} {r : List Nat} {KP : List Pos} : expA R b P (m :: r) KP = if (learnA R b (playC R P m) KP).1 = 0 then expA R b P r (learnA R b (playC R P m) KP).2 else ((learnA R b (playC R P m) KP).2, (learnA R b (playC R P m) KP).1) := by
  show (if knownB KP (playC R P m) = true then _ else _) = _
  unfold learnA
  by_cases q : knownB KP (playC R P m) = true
  · rw [if_pos q, if_pos q]; rfl
  · rw [if_neg q, if_neg q]
    by_cases q2 : KP.length < b
    · rw [if_pos q2, if_pos q2]
      by_cases q3 : wonB R (playC R P m) = true
      · rw [if_pos q3, if_pos q3]; rfl
      · rw [if_neg q3, if_neg q3]; rfl
    · rw [if_neg q2, if_neg q2]; rfl
theorem learnA_pre {R : Nat → Nat} {b : Nat} {C : Pos} {KP : List Pos} (hb : KP.length ≤ b) : (∃ X, (learnA R b C KP).2 = KP ++ X) ∧ (learnA R b C KP).2.length ≤ b ∧ (learnA R b C KP).1 ≤ 2 := by
  unfold learnA
  split
  · exact ⟨⟨[], by simp⟩, hb, Nat.zero_le _⟩
  · split
    · refine ⟨⟨[C], rfl⟩, ?_, ?_⟩
      · simp only [List.length_append, List.length_cons, List.length_nil]; omega
      · dsimp only; split <;> decide
    · exact ⟨⟨[], by simp⟩, hb, Nat.le_refl _⟩
theorem m_goOn_L {R : Nat → Nat} {P : Pos} {k b : Nat} (wP : WF R P) (hb4 : b ≤ 400) : ∀ (j c n : Nat) (I : Nat → Nat → Int32) (L : Nat → Nat → Int64) (KP : List Pos), c + j = 1440 → j < n → RR (I 1) R → MRep I L P → MK R I L KP → KP[k]? = some P → KP.length ≤ b →
    ∃ I' L', F_X6_goOn_L14 n I L (nI k) (nI b) (nI c) = some (nI (expA R b P (((List.range' c j).filter (allB R P)).map allC) KP).2, I', L') ∧ MRep I' L' P ∧ MK R I' L' (expA R b P (((List.range' c j).filter (allB R P)).map allC) KP).1 ∧ FrM I I' ∧ FrLM L L' ∧ (∃ X, (expA R b P (((List.range' c j).filter (allB R P)).map allC) KP).1 = KP ++ X) ∧ (expA R b P (((List.range' c j).filter (allB R P)).map allC) KP).1.length ≤ b := by
  intro j
  induction j with
  | zero =>
    intro c n I L KP hc hn hr hP h hk hb
    obtain ⟨n, rfl⟩ : ∃ q, n = q + 1 := ⟨n - 1, by omega⟩
    refine ⟨I, L, ?_, hP, h, FrM.refl I, FrLM.refl L, ⟨[], by simp [expA]⟩, hb⟩
    show F_X6_goOn_s14 (F_X6_goOn_L14 n) _ _ _ _ _ = _
    unfold F_X6_goOn_s14
    rw [if_pos (nI_le (by omega) (by omega))]; rfl
  | succ j ih =>
    intro c n I L KP hc hn hr hP h hk hb
    obtain ⟨n, rfl⟩ : ∃ q, n = q + 1 := ⟨n - 1, by omega⟩
    show ∃ I' L', F_X6_goOn_s14 (F_X6_goOn_L14 n) _ _ _ _ _ = _ ∧ _
    unfold F_X6_goOn_s14
    have e : List.range' c (j + 1) = c :: List.range' (c + 1) j := rfl
    have hf : c / 144 < 10 := by omega
    have ht : c / 16 % 9 < 9 := by omega
    have hn16 : c % 16 + 1 ≤ 16 := by omega
    rw [if_neg (nI_ge (by omega) (by omega)), nz_n _ (by omega) (by omega), nz_n _ (by omega) (by omega), nz_n _ (by omega) (by omega), nz_n _ (by omega) (by omega), show nI c - nI c / nI 16 * nI 16 = nI (c % 16) from pk_rem (by omega) (by omega) (by omega), pk_div (by omega) (by omega) (by omega), pk_div (by omega) (by omega) (by omega), pk_rem (by omega) (by omega) (by omega), nI_add]
    have skip : canB (c / 144) (c / 16 % 9) (c % 16 + 1) = false → ∃ I' L', F_X6_goOn_b75 (F_X6_goOn_L14 n) I L (nI k) (nI b) (nI c) (nI (c / 144)) (nI (c / 16 % 9)) (nI (c % 16 + 1)) (nI 0) = some (nI (expA R b P (((List.range' c (j + 1)).filter (allB R P)).map allC) KP).2, I', L') ∧ MRep I' L' P ∧ MK R I' L' (expA R b P (((List.range' c (j + 1)).filter (allB R P)).map allC) KP).1 ∧ FrM I I' ∧ FrLM L L' ∧ (∃ X, (expA R b P (((List.range' c (j + 1)).filter (allB R P)).map allC) KP).1 = KP ++ X) ∧ (expA R b P (((List.range' c (j + 1)).filter (allB R P)).map allC) KP).1.length ≤ b := by
      intro hcan
      unfold F_X6_goOn_b75
      have ha : ¬ allB R P c = true := by unfold allB; rw [hcan, Bool.false_and]; exact Bool.false_ne_true
      rw [if_pos rfl, nI_add, e, List.filter_cons_of_neg ha]
      exact ih (c + 1) n I L KP (by omega) (by omega) hr hP h hk hb
    have go : canB (c / 144) (c / 16 % 9) (c % 16 + 1) = true → ∃ I' L', F_X6_goOn_b75 (F_X6_goOn_L14 n) I L (nI k) (nI b) (nI c) (nI (c / 144)) (nI (c / 16 % 9)) (nI (c % 16 + 1)) (nI 1) = some (nI (expA R b P (((List.range' c (j + 1)).filter (allB R P)).map allC) KP).2, I', L') ∧ MRep I' L' P ∧ MK R I' L' (expA R b P (((List.range' c (j + 1)).filter (allB R P)).map allC) KP).1 ∧ FrM I I' ∧ FrLM L L' ∧ (∃ X, (expA R b P (((List.range' c (j + 1)).filter (allB R P)).map allC) KP).1 = KP ++ X) ∧ (expA R b P (((List.range' c (j + 1)).filter (allB R P)).map allC) KP).1.length ≤ b := by
      intro hcan
      unfold F_X6_goOn_b75
      have hc' := hcan
      unfold canB at hc'
      simp only [Bool.and_eq_true, Bool.or_eq_true, decide_eq_true_eq] at hc'
      rw [if_neg (show ¬ nI 1 = nI 0 by decide), m_isMove hP wP hr hf ht (by omega) hn16 (by omega), cal1_s, bi_if, nI_add, e]
      by_cases q : legal R P (c / 144) (c / 16 % 9) (c % 16 + 1) = true
      · have ha : allB R P c = true := by unfold allB; rw [hcan, q]; rfl
        rw [if_pos q, List.filter_cons_of_pos ha, List.map_cons, expA_cons]
        have ep : playC R P (allC c) = playP R P (c / 144) (c / 16 % 9) (c % 16 + 1) := playC_code hf ht hn16
        rw [ep]
        obtain ⟨I1, L1, a1, a2, a3, a4, a5⟩ := m_learn hr hP wP h hk hb hb4 ht (show 1 ≤ c % 16 + 1 by omega) hn16 (by omega) q
        obtain ⟨⟨X, hX⟩, hl2, hl1⟩ := learnA_pre (R := R) (C := playP R P (c / 144) (c / 16 % 9) (c % 16 + 1)) hb
        rw [a1, cal3_s]
        generalize learnA R b (playP R P (c / 144) (c / 16 % 9) (c % 16 + 1)) KP = Z at a3 hX hl2 hl1 ⊢
        by_cases z : Z.1 = 0
        · rw [if_pos (show nI Z.1 ≤ nI 0 from nI_le (by omega) (by omega)), if_pos z]
          have hk1 : Z.2[k]? = some P := by rw [hX, List.getElem?_append_left (List.getElem?_eq_some_iff.mp hk).1]; exact hk
          obtain ⟨I2, L2, b1, b2, b3, b4, b5, ⟨Y, hY⟩, b7⟩ := ih (c + 1) n I1 L1 Z.2 (by omega) (by omega) (by rw [a4.1 1 (by omega)]; exact hr) a2 a3 hk1 hl2
          exact ⟨I2, L2, b1, b2, b3, a4.trans b4, a5.trans b5, ⟨X ++ Y, by rw [hY, hX, List.append_assoc]⟩, b7⟩
        · rw [if_neg (show ¬ nI Z.1 ≤ nI 0 from nI_ge (by omega) (by omega)), if_neg z]
          exact ⟨I1, L1, rfl, a2, a3, a4, a5, ⟨X, hX⟩, hl2⟩
      · have ha : ¬ allB R P c = true := by unfold allB; rw [hcan]; simpa using q
        rw [if_neg q, List.filter_cons_of_neg ha]
        exact ih (c + 1) n I L KP (by omega) (by omega) hr hP h hk hb
    unfold canB at skip go
    by_cases f8 : c / 144 = 8
    · rw [if_pos (by rw [f8])]; exact skip (by simp [f8])
    · rw [if_neg (by rw [nI_eq (by omega) (by omega)]; exact f8)]
      by_cases n1 : c % 16 + 1 = 1
      · rw [if_pos (by rw [n1])]; exact go (by simp [f8, n1])
      · rw [if_neg (by rw [nI_eq (by omega) (by omega)]; exact n1)]
        by_cases f5 : c / 144 < 5
        · rw [if_neg (nI_ge f5 (by omega))]
          by_cases t5 : c / 16 % 9 < 5
          · rw [if_neg (nI_ge t5 (by omega))]; exact go (by simp [f8, f5, t5])
          · rw [if_pos (nI_le (by omega) (by omega))]; exact skip (by rw [decide_eq_false n1, decide_eq_false t5]; simp)
        · rw [if_pos (nI_le (by omega) (by omega))]; exact skip (by rw [decide_eq_false n1, decide_eq_false f5]; simp)
theorem m_goOn {R : Nat → Nat} {I : Nat → Nat → Int32} {L : Nat → Nat → Int64} {KP : List Pos} {P : Pos} {k b : Nat} (hr : RR (I 1) R) (h : MK R I L KP) (hk : KP[k]? = some P) (hb : KP.length ≤ b) (hb4 : b ≤ 400) :
    ∃ I' L', F_X6_goOn I L (nI k) (nI b) = some (nI (expA R b P (mvs R P) KP).2, I', L') ∧ MRep I' L' P ∧ MK R I' L' (expA R b P (mvs R P) KP).1 ∧ FrM I I' ∧ FrLM L L' ∧ (∃ X, (expA R b P (mvs R P) KP).1 = KP ++ X) ∧ (expA R b P (mvs R P) KP).1.length ≤ b := by
  obtain ⟨a, -, w⟩ := h.2 k P hk
  have hlt : k < KP.length := (List.getElem?_eq_some_iff.mp hk).1
  unfold F_X6_goOn
  rw [pk_mul]
  obtain ⟨I1, L1, e1, e2, e3, e4⟩ := m_load (I := I) (cc := 3) (nn := 3216) (o := 8 * k) (w.kok hr.2) (by omega) (by omega) (by omega) a
  rw [e1, cal2_s, mvs_all, List.range_eq_range']
  obtain ⟨I2, L2, b1, b2, b3, b4, b5, b6, b7⟩ := m_goOn_L w hb4 1440 0 FU I1 L1 KP (by omega) (FU_gt (by omega)) (by rw [e3.1 1 (by omega)]; exact hr) e2 (h.fr e3 e4) hk hb
  exact ⟨I2, L2, b1, b2, b3, e3.m.trans b4, e4.m.trans b5, b6, b7⟩
