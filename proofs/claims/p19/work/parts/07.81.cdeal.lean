/-! ===== the class: deal, move, undo, safe ===== -/
theorem s_copyRules {rn r : Nat → Int32} {N : Nat → Nat} (h : RR rn N) : ∃ r', F_X1_copyFrom rn r = some r' ∧ RR r' N := by
  have n8 : N 8 ≤ 1 := h.2.2.2.2.2.2.2.2.2.2.2.2.2.2.2
  have z : ∀ (k : Option (Nat → Int32)), zb (rn 8) k = k := by
    intro k
    rw [h.1 8 (by omega)]
    rcases Nat.lt_or_ge (N 8) 1 with q | q
    · rw [show N 8 = 0 by omega]; rfl
    · rw [show N 8 = 1 by omega]; rfl
  unfold F_X1_copyFrom
  rw [bnd_s, bnd_s, bnd_s, bnd_s, bnd_s, bnd_s, bnd_s, bnd_s, z, bnd_s]
  refine ⟨_, rfl, fun k hk => ?_, h.2⟩
  simp only [upd_s]
  have hk' : k = 0 ∨ k = 1 ∨ k = 2 ∨ k = 3 ∨ k = 4 ∨ k = 5 ∨ k = 6 ∨ k = 7 ∨ k = 8 := by omega
  rcases hk' with rfl | rfl | rfl | rfl | rfl | rfl | rfl | rfl | rfl
  · simp; exact h.1 0 (by omega)
  · simp; exact h.1 1 (by omega)
  · simp; exact h.1 2 (by omega)
  · simp; exact h.1 3 (by omega)
  · simp; exact h.1 4 (by omega)
  · simp; exact h.1 5 (by omega)
  · simp; exact h.1 6 (by omega)
  · simp; exact h.1 7 (by omega)
  · simp; exact h.1 8 (by omega)
theorem s_money {A : AS} {P rn r : Nat → Int32} {D T : Nat → Nat → Int32} {S : Nat → Nat → Int64} (hA : okA A) (h : CSt A P rn r D T S) : F_X5_moneyOfDeal P T r = some (moneyA (cur A.2.2.1) (A.2.2.1.length - 1) A.2.2.2.1) := by
  unfold F_X5_moneyOfDeal
  rw [s_cardsUp h.2.2.1 hA.wf h.2.1, cal1_s, h.2.2.2.1, h.2.2.2.2.1]; rfl
theorem C_deal {A : AS} {P rn r : Nat → Int32} {D T : Nat → Nat → Int32} {S : Nat → Nat → Int64} (hA : okA A) (h : CSt A P rn r D T S) (v1 v2 : Int32) :
    ∃ P' T' r' D', F_X5_deal rn P T r D v1 v2 = some ((aDeal A v1 v2).1, (aDeal A v1 v2).2.1, P', T', r', D') ∧ CSt (aDeal A v1 v2).2.2 P' rn r' D' T' S := by
  unfold aDeal F_X5_deal
  rw [s_within, cal1_s, bi_if, s_within, cal1_s, bi_if]
  by_cases q : okDeal v1 v2 = true
  · rw [if_pos q]
    unfold okDeal at q
    rw [Bool.and_eq_true] at q
    rw [if_pos q.1, if_pos q.2]
    obtain ⟨e1, -, b1⟩ := inB_nV (by omega) (by omega) q.1
    obtain ⟨e2, -, b2⟩ := inB_nV (by omega) (by omega) q.2
    have hm : nV v1 < 2 := by omega
    obtain ⟨r', c1, c2⟩ := s_copyRules (r := r) h.1
    obtain ⟨D', d1, d2⟩ := s_draw (mc := nV v1) (x := nV v2) hm c2.2 D
    obtain ⟨T', f1, f2, -⟩ := s_lay c2 d2 T
    rw [← e1, ← e2] at d1
    rw [s_money hA h, cal1_s, bnd_s, c1, cal1_s]
    unfold F_X5_dealNumber
    rw [s_cards c2, cal1_s, d1, cal1_s, f1, cal1_s, bnd_s, bnd_s, cal3_s, s_inColumns c2, cal1_s]
    have eC : nI (A.1 0 * A.1 1 - A.1 6) = nI (A.1 0 * A.1 1) - nI (A.1 6) := (pk_sub (by have := hA.1; unfold RulesOk at this; omega)).symm
    rw [eC]
    refine ⟨upd (upd (upd P 9 (P 9 + moneyA (cur A.2.2.1) (A.2.2.1.length - 1) A.2.2.2.1)) 7 (nI 0)) 8 (nI 0), T', r', D', rfl, ?_⟩
    refine ⟨h.1, c2, f2, ?_, ?_, ?_, ?_, d2⟩
    · rw [upd_s, if_neg (by omega), upd_s, if_pos rfl]; rfl
    · rw [upd_s, if_pos rfl]
    · rw [upd_s, if_neg (by omega), upd_s, if_neg (by omega), upd_s, if_pos rfl, h.2.2.2.2.2.1]
    · intro i Q hi hl
      exact absurd hl (by show ¬ i + 1 < 1; omega)
  · rw [if_neg q]
    unfold okDeal at q
    by_cases q1 : inB v1 0 1 = true
    · rw [if_pos q1]
      by_cases q2 : inB v2 0 1000000 = true
      · rw [q1, q2] at q; exact absurd rfl q
      · rw [if_neg q2]; exact ⟨P, T, r, D, rfl, h⟩
    · rw [if_neg q1]; exact ⟨P, T, r, D, rfl, h⟩
theorem C_doMove {A : AS} {P rn r : Nat → Int32} {D T : Nat → Nat → Int32} {S : Nat → Nat → Int64} (hA : okA A) (h : CSt A P rn r D T S) {f t n : Nat} (hf : f < 10) (ht : t < 9) (hn : 1 ≤ n) (hn16 : n ≤ 16) (h1 : n = 1 ∨ (f < 5 ∧ t < 5)) (hl : legal A.2.1 (cur A.2.2.1) f t n = true) (hd : A.2.2.1.length ≤ 200) :
    ∃ P' S' T', F_X5_doMove P S T (nI f) (nI t) (nI n) = some (P', S', T') ∧ CSt (A.1, A.2.1, A.2.2.1 ++ [playP A.2.1 (cur A.2.2.1) f t n], A.2.2.2) P' rn r D T' S' := by
  have w := hA.wf
  have hlen := hA.2.2.1
  obtain ⟨S', a1, a2, a3⟩ := s_keep (n := 200) (i := A.2.2.1.length - 1) h.2.2.1 w.1 (S := S) (by omega) (by omega)
  obtain ⟨T', b1, b2⟩ := s_play h.2.2.1 w hA.2.1 hf ht hn hn16 h1 hl
  unfold F_X5_doMove
  rw [h.2.2.2.1, a1, cal1_s, s_codeOf, cal1_s, b1, cal1_s, nI_add, bnd_s]
  refine ⟨_, S', T', rfl, h.1, h.2.1, ?_, ?_, ?_, ?_, ?_, h.2.2.2.2.2.2.2⟩
  · show TRep T' (cur (A.2.2.1 ++ [playP A.2.1 (cur A.2.2.1) f t n]))
    rw [cur_app]; exact b2
  · rw [upd_s, if_pos rfl]
    show nI (A.2.2.1.length - 1 + 1) = nI ((A.2.2.1 ++ [playP A.2.1 (cur A.2.2.1) f t n]).length - 1)
    rw [List.length_append, List.length_singleton]; congr 1; omega
  · rw [upd_s, if_neg (by omega)]; exact h.2.2.2.2.1
  · rw [upd_s, if_neg (by omega)]; exact h.2.2.2.2.2.1
  · intro i Q hi hlt
    change (A.2.2.1 ++ [playP A.2.1 (cur A.2.2.1) f t n])[i]? = some Q at hi
    change i + 1 < (A.2.2.1 ++ [playP A.2.1 (cur A.2.2.1) f t n]).length at hlt
    rw [List.length_append, List.length_singleton] at hlt
    rw [List.getElem?_append_left (by omega)] at hi
    by_cases q : i = A.2.2.1.length - 1
    · have e : cur A.2.2.1 = Q := by
        unfold cur
        rw [List.getLast?_eq_getElem?, ← q, hi]; rfl
      rw [q, ← e]; exact a2
    · have h0 := h.2.2.2.2.2.2.1 i Q hi (by omega)
      unfold SRow at h0 ⊢
      rw [a3 0 i q, a3 1 i q, a3 2 i q]; exact h0
theorem C_move {A : AS} {P rn r : Nat → Int32} {D T : Nat → Nat → Int32} {S : Nat → Nat → Int64} (hA : okA A) (h : CSt A P rn r D T S) (v1 v2 v3 : Int32) :
    ∃ P' T' S', F_X5_move r P T S v1 v2 v3 = some ((aMove A v1 v2 v3).1, (aMove A v1 v2 v3).2.1, P', T', S') ∧ CSt (aMove A v1 v2 v3).2.2 P' rn r D T' S' := by
  have hlen := hA.2.2.1
  have hlen2 := hA.2.2.2.1
  have go : okArg v1 v2 v3 = true → ∀ (a b : Nat), inB v3 a b = true → ∃ P' T' S', F_X5_move_b63 r P T S v1 v2 v3 v3 (nI a) (nI b) = some ((aMove A v1 v2 v3).1, (aMove A v1 v2 v3).2.1, P', T', S') ∧ CSt (aMove A v1 v2 v3).2.2 P' rn r D T' S' := by
    intro q a b hab
    obtain ⟨e1, e2, e3, b1, b2, b3, b4, b5⟩ := okArg_facts q
    unfold aMove F_X5_move_b63
    rw [if_pos q, s_within, cal1_s, bi_if, if_pos hab, h.2.2.2.1]
    by_cases q2 : A.2.2.1.length - 1 < 200
    · have hm := s_isMove h.2.2.1 hA.wf h.2.1 b1 b2 b3 b4 b5
      rw [← e1, ← e2, ← e3] at hm
      rw [if_neg (nI_ge q2 (by omega)), hm, cal1_s, bi_if]
      by_cases q3 : legal A.2.1 (cur A.2.2.1) (nV v1) (nV v2) (nV v3) = true
      · have qd : okDo A v1 v2 v3 = true := by unfold okDo; rw [decide_eq_true q2, q3]; rfl
        rw [if_pos q3, if_pos qd]
        obtain ⟨P', S', T', c1, c2⟩ := C_doMove hA h b1 b2 b3 b4 b5 q3 (by omega)
        rw [← e1, ← e2, ← e3] at c1
        have w' := playP_wf hA q qd
        have c3 : TRep T' (afterMove A v1 v2 v3) := by
          have := c2.2.2.1
          change TRep T' (cur (A.2.2.1 ++ [playP A.2.1 (cur A.2.2.1) (nV v1) (nV v2) (nV v3)])) at this
          rw [cur_app] at this; exact this
        rw [c1, cal3_s, s_cardsUp c3 w' h.2.1, cal1_s]
        exact ⟨P', T', S', rfl, c2⟩
      · have qd : ¬ okDo A v1 v2 v3 = true := by unfold okDo; rw [Bool.and_eq_true]; exact fun y => q3 y.2
        rw [if_neg q3, if_neg qd]
        exact ⟨P, T, S, rfl, h⟩
    · have qd : ¬ okDo A v1 v2 v3 = true := by unfold okDo; rw [Bool.and_eq_true, decide_eq_true_eq]; exact fun y => q2 y.1
      rw [if_pos (nI_le (by omega) (by omega)), if_neg qd]
      exact ⟨P, T, S, rfl, h⟩
  have bad : ∀ (X : Option (Nat × Int32 × (Nat → Int32) × (Nat → Nat → Int32) × (Nat → Nat → Int64))), ¬ okArg v1 v2 v3 = true → X = some (1, nI 0, P, T, S) → ∃ P' T' S', X = some ((aMove A v1 v2 v3).1, (aMove A v1 v2 v3).2.1, P', T', S') ∧ CSt (aMove A v1 v2 v3).2.2 P' rn r D T' S' := by
    intro X q hX
    unfold aMove
    rw [if_neg q]
    exact ⟨P, T, S, hX, h⟩
  have nob : ∀ (a b : Nat), ¬ inB v3 a b = true → F_X5_move_b63 r P T S v1 v2 v3 v3 (nI a) (nI b) = some (1, nI 0, P, T, S) := by
    intro a b hab
    unfold F_X5_move_b63
    rw [s_within, cal1_s, bi_if, if_neg hab]
  have fal : ∀ {b : Bool}, ¬ b = true → b = false := fun h => by rw [← Bool.not_eq_true]; exact h
  unfold F_X5_move
  rw [s_within, cal1_s, bi_if]
  by_cases q1 : inB v1 0 9 = true
  · rw [if_pos q1]
    obtain ⟨e1, -, b1⟩ := inB_nV (by omega) (by omega) q1
    by_cases q2 : v1 = nI 8
    · rw [if_pos q2]
      exact bad _ (by unfold okArg; rw [decide_eq_false (Classical.not_not.mpr q2), Bool.false_and, Bool.and_false]; exact Bool.false_ne_true) rfl
    · rw [if_neg q2, s_within, cal1_s, bi_if]
      by_cases q3 : inB v2 0 8 = true
      · rw [if_pos q3]
        obtain ⟨e2, -, b2⟩ := inB_nV (by omega) (by omega) q3
        by_cases q4 : v1 = v2
        · rw [if_pos q4]
          exact bad _ (by unfold okArg; rw [decide_eq_false (Classical.not_not.mpr q4), Bool.false_and, Bool.and_false, Bool.and_false, Bool.and_false]; exact Bool.false_ne_true) rfl
        · have c1 : F_X5_isColumn v1 = some (bi (decide (nV v1 < 5))) := by rw [e1, s_isColumn (by omega), ← e1]
          have c2 : F_X5_isColumn v2 = some (bi (decide (nV v2 < 5))) := by rw [e2, s_isColumn (by omega), ← e2]
          have arg : okArg v1 v2 v3 = (inB v3 1 16 && (decide (v3 = nI 1) || (decide (¬ nI 5 ≤ v1) && decide (¬ nI 5 ≤ v2)))) := by
            unfold okArg; rw [q1, q3, decide_eq_true q2, decide_eq_true q4, Bool.true_and, Bool.true_and, Bool.true_and, Bool.true_and]
          have z1 : decide (¬ nI 5 ≤ v1) = decide (nV v1 < 5) := by
            by_cases z : nV v1 < 5
            · rw [decide_eq_true z, decide_eq_true (by rw [e1]; exact nI_ge z (by omega))]
            · rw [decide_eq_false z, decide_eq_false (by rw [e1]; exact Classical.not_not.mpr (nI_le (by omega) (by omega)))]
          have z2 : decide (¬ nI 5 ≤ v2) = decide (nV v2 < 5) := by
            by_cases z : nV v2 < 5
            · rw [decide_eq_true z, decide_eq_true (by rw [e2]; exact nI_ge z (by omega))]
            · rw [decide_eq_false z, decide_eq_false (by rw [e2]; exact Classical.not_not.mpr (nI_le (by omega) (by omega)))]
          have one : ∀ {x : Bool}, x = false → (inB v3 1 16 && (decide (v3 = nI 1) || x)) = inB v3 1 1 := by
            intro x hx
            rw [hx, Bool.or_false]
            by_cases z : v3 = nI 1
            · rw [decide_eq_true z, z]; decide
            · rw [decide_eq_false z, Bool.and_false]
              cases z9 : inB v3 1 1
              · rfl
              · obtain ⟨y1, y2, y3⟩ := inB_nV (by omega) (by omega) z9
                exact absurd (y1.trans (by rw [show nV v3 = 1 by omega])) z
          rw [if_neg q4, c1, cal1_s, bi_if]
          rw [z1, z2] at arg
          by_cases q5 : nV v1 < 5
          · rw [if_pos (decide_eq_true q5), c2, cal1_s, bi_if]
            by_cases q6 : nV v2 < 5
            · rw [if_pos (decide_eq_true q6)]
              rw [decide_eq_true q5, decide_eq_true q6, Bool.and_self, Bool.or_true, Bool.and_true] at arg
              by_cases q7 : inB v3 1 16 = true
              · exact go (arg.trans q7) 1 16 q7
              · exact bad _ (by rw [arg]; exact q7) (nob _ _ q7)
            · rw [if_neg (by rw [decide_eq_true_eq]; exact q6)]
              rw [one (by rw [decide_eq_false q6, Bool.and_false])] at arg
              by_cases q7 : inB v3 1 1 = true
              · exact go (arg.trans q7) 1 1 q7
              · exact bad _ (by rw [arg]; exact q7) (nob _ _ q7)
          · rw [if_neg (by rw [decide_eq_true_eq]; exact q5)]
            rw [one (by rw [decide_eq_false q5, Bool.false_and])] at arg
            by_cases q7 : inB v3 1 1 = true
            · exact go (arg.trans q7) 1 1 q7
            · exact bad _ (by rw [arg]; exact q7) (nob _ _ q7)
      · rw [if_neg q3]
        exact bad _ (by unfold okArg; rw [fal q3, Bool.false_and, Bool.and_false, Bool.and_false]; exact Bool.false_ne_true) rfl
  · rw [if_neg q1]
    exact bad _ (by unfold okArg; rw [fal q1, Bool.false_and]; exact Bool.false_ne_true) rfl
