/-! ===== the class: search, known, hint, odds, numberOf ===== -/
theorem C_search {A : AS} {P rn r : Nat → Int32} {D T : Nat → Nat → Int32} {S : Nat → Nat → Int64} (hA : okA A) (h : CSt A P rn r D T S) (Q Tt To : Nat → Nat → Int32) (Ss : Nat → Nat → Int64) (v : Int32) :
    ∃ Q' Tt' To' Ss', F_X5_search P T r Q Tt To Ss v = some ((aSearch A v).1, (aSearch A v).2.1, Q', Tt', To', Ss') := by
  unfold aSearch F_X5_search
  rw [s_within, cal1_s, bi_if]
  by_cases q : inB v 1 400 = true
  · rw [if_pos q, if_pos q]
    obtain ⟨e1, a1, b1⟩ := inB_nV (by omega) (by omega) q
    obtain ⟨T1, c1, c2, -⟩ := s_copyFrom (T0 := Tt) h.2.2.1
    obtain ⟨Q', To', Tt', Ss', d1, -⟩ := s_run h.2.1 c2 hA.wf a1 b1 Q To Ss
    rw [← e1] at d1
    rw [c1, cal1_s, d1, cal5_s]
    exact ⟨Q', Tt', To', Ss', rfl⟩
  · rw [if_neg q, if_neg q]
    exact ⟨Q, Tt, To, Ss, rfl⟩
theorem C_known {A : AS} {P rn r : Nat → Int32} {D T : Nat → Nat → Int32} {S : Nat → Nat → Int64} (hA : okA A) (h : CSt A P rn r D T S) (Q Tt To : Nat → Nat → Int32) (Ss : Nat → Nat → Int64) (v : Int32) :
    ∃ Q' Tt' To' Ss', F_X5_known P T r Q Tt To Ss v = some ((aKnown A v).1, (aKnown A v).2.1, Q', Tt', To', Ss') := by
  unfold aKnown F_X5_known
  rw [s_within, cal1_s, bi_if]
  by_cases q : inB v 1 400 = true
  · rw [if_pos q, if_pos q]
    obtain ⟨e1, a1, b1⟩ := inB_nV (by omega) (by omega) q
    obtain ⟨T1, c1, c2, -⟩ := s_copyFrom (T0 := Tt) h.2.2.1
    obtain ⟨Q', To', Tt', Ss', d1, d2, -⟩ := s_run h.2.1 c2 hA.wf a1 b1 Q To Ss
    rw [← e1] at d1
    rw [c1, cal1_s, d1, cal5_s, d2]
    exact ⟨Q', Tt', To', Ss', rfl⟩
  · rw [if_neg q, if_neg q]
    exact ⟨Q, Tt, To, Ss, rfl⟩
theorem C_hint_L {R : Nat → Nat} {Po : Pos} {P r : Nat → Int32} {T : Nat → Nat → Int32} (hr : RR r R) (w : WF R Po) (hT : LRep T Po (mvs R Po)) (least : Int32) : ∀ (j k n : Nat) (Q Tt To : Nat → Nat → Int32) (Ss : Nat → Nat → Int64), k + j = (mvs R Po).length → j < n →
    ∃ Q' Tt' To' Ss', F_X5_hint_L40 P r n Q Tt T To Ss least (nI k) = some (hintF R Po least ((mvs R Po).drop k), Q', Tt', T, To', Ss') := by
  have hml := mvs_le hr.2 w.1
  intro j
  induction j with
  | zero =>
    intro k n Q Tt To Ss hk hn
    obtain ⟨n, rfl⟩ : ∃ q, n = q + 1 := ⟨n - 1, by omega⟩
    refine ⟨Q, Tt, To, Ss, ?_⟩
    show F_X5_hint_s40 P r (F_X5_hint_L40 P r n) _ _ _ _ _ _ _ = _
    unfold F_X5_hint_s40
    rw [hT.2.1, if_pos (nI_le (by omega) (by omega)), List.drop_of_length_le (by omega)]; rfl
  | succ j ih =>
    intro k n Q Tt To Ss hk hn
    obtain ⟨n, rfl⟩ : ∃ q, n = q + 1 := ⟨n - 1, by omega⟩
    have hkl : k < (mvs R Po).length := by omega
    obtain ⟨m, hm⟩ : ∃ m, (mvs R Po)[k]? = some m := ⟨_, List.getElem?_eq_getElem hkl⟩
    have hmem := List.mem_of_getElem? hm
    obtain ⟨f, t, n2, ec, hf, ht, hn1, hn16, h1, f8, hl⟩ := mem_mvs hmem
    have c1 : m / 1000 = f := by rw [ec]; unfold codeN; omega
    have c2 : m / 100 % 10 = t := by rw [ec]; unfold codeN; omega
    have c3 : m % 100 = n2 := by rw [ec]; unfold codeN; omega
    have ep : playC R Po m = playP R Po f t n2 := by unfold playC; rw [c1, c2, c3]
    have ed : (mvs R Po).drop k = m :: (mvs R Po).drop (k + 1) := by
      rw [List.drop_eq_getElem_cons hkl, (List.getElem?_eq_some_iff.mp hm).2]
    have ea := s_listedAt hT hml (i := k) (by omega)
    rw [hm] at ea
    obtain ⟨T1, b1, b2, -⟩ := s_copyFrom (T0 := Tt) hT.1
    obtain ⟨T2, d1, d2⟩ := s_play b2 w hr.2 hf ht hn1 hn16 h1 hl
    rw [← ec] at d1
    rw [← ep] at d2
    have wC : WF R (playC R Po m) := by rw [ep]; exact wf_play w hr.2 hn1 h1 hl
    obtain ⟨Q1, To1, Tt1, Ss1, f1, -⟩ := s_run hr d2 wC (b := 100) (by omega) (by omega) Q To Ss
    obtain ⟨Q', Tt', To', Ss', g1⟩ := ih (k + 1) n Q1 Tt1 To1 Ss1 (by omega) (by omega)
    show ∃ Q' Tt' To' Ss', F_X5_hint_s40 P r (F_X5_hint_L40 P r n) _ _ _ _ _ _ _ = _
    unfold F_X5_hint_s40
    rw [hT.2.1, if_neg (nI_ge hkl (by omega)), ea, cal1_s, b1, cal1_s, show optI (some m) = nI m from rfl, d1, cal1_s, f1, cal5_s, ed]
    by_cases q : (searchA R 100 (playC R Po m)).1 = least - nI 1
    · rw [if_pos q]
      refine ⟨Q1, Tt1, To1, Ss1, ?_⟩
      show _ = some ((if (searchA R 100 (playC R Po m)).1 = least - nI 1 then nI m else hintF R Po least ((mvs R Po).drop (k + 1))), Q1, Tt1, T, To1, Ss1)
      rw [if_pos q]
    · rw [if_neg q, nI_add, g1]
      refine ⟨Q', Tt', To', Ss', ?_⟩
      show _ = some ((if (searchA R 100 (playC R Po m)).1 = least - nI 1 then nI m else hintF R Po least ((mvs R Po).drop (k + 1))), Q', Tt', T, To', Ss')
      rw [if_neg q]
theorem C_hint {A : AS} {P rn r : Nat → Int32} {D T : Nat → Nat → Int32} {S : Nat → Nat → Int64} (hA : okA A) (h : CSt A P rn r D T S) (Q Tt To : Nat → Nat → Int32) (Ss : Nat → Nat → Int64) :
    ∃ Q' Tt' T' To' Ss', F_X5_hint P r Q Tt T To Ss = some ((aHint A).2.1, Q', Tt', T', To', Ss') ∧ CSt A P rn r D T' S := by
  obtain ⟨T1, c1, c2, -⟩ := s_copyFrom (T0 := Tt) h.2.2.1
  obtain ⟨Q1, To1, Tt1, Ss1, d1, -⟩ := s_run h.2.1 c2 hA.wf (b := 100) (by omega) (by omega) Q To Ss
  unfold F_X5_hint aHint hintA
  rw [c1, cal1_s, d1, cal5_s]
  by_cases q : nI 1 ≤ (searchA A.2.1 100 (cur A.2.2.1)).1
  · rw [if_pos q, if_pos q]
    obtain ⟨T', a1, a2⟩ := s_listMoves h.2.2.1 hA.wf h.2.1
    obtain ⟨Q', Tt', To', Ss', f1⟩ := C_hint_L (P := P) h.2.1 hA.wf a2 (searchA A.2.1 100 (cur A.2.2.1)).1 (mvs A.2.1 (cur A.2.2.1)).length 0 FU Q1 Tt1 To1 Ss1 (by omega) (FU_gt (by have := mvs_le hA.2.1 hA.wf.1; omega))
    rw [List.drop_zero] at f1
    rw [a1, cal1_s, f1]
    exact ⟨Q', Tt', T', To', Ss', rfl, h.1, h.2.1, a2.1, h.2.2.2⟩
  · rw [if_neg q, if_neg q]
    exact ⟨Q1, Tt1, T, To1, Ss1, rfl, h⟩
theorem C_num_L {R : Nat → Nat} {P r : Nat → Int32} {Dd : Nat → Nat → Int32} {mc m2 x2 : Nat} (hr : RR r R) (hm : mc < 2) (hD : DRep Dd (cardsA R m2 x2)) : ∀ (j k n : Nat) (Dt : Nat → Nat → Int32), k + j = 501 → j < n →
    ∃ Dt', F_X5_numberOf_L21 P r Dd n Dt (nI mc) (nI k) = some (0, numF R mc (cardsA R m2 x2) k j, Dt') := by
  have hR := hr.2
  unfold RulesOk at hR
  intro j
  induction j with
  | zero =>
    intro k n Dt hk hn
    obtain ⟨n, rfl⟩ : ∃ q, n = q + 1 := ⟨n - 1, by omega⟩
    refine ⟨Dt, ?_⟩
    show F_X5_numberOf_s21 P r Dd (F_X5_numberOf_L21 P r Dd n) _ _ _ = _
    unfold F_X5_numberOf_s21
    rw [if_pos (nI_lt (by omega) (by omega))]; rfl
  | succ j ih =>
    intro k n Dt hk hn
    obtain ⟨n, rfl⟩ : ∃ q, n = q + 1 := ⟨n - 1, by omega⟩
    obtain ⟨D1, a1, a2⟩ := s_draw (mc := mc) (x := k) hm hr.2 Dt
    obtain ⟨Dt', b1⟩ := ih (k + 1) n D1 (by omega) (by omega)
    have er : List.range' k (j + 1) = k :: List.range' (k + 1) j := rfl
    have hs := s_isSameAs a2 hD (show R 0 * R 1 ≤ 16 by omega) (cardsA_len R mc k) (cardsA_len R m2 x2) (fun c hc => by have := cardsA_lt hc; omega) (fun c hc => by have := cardsA_lt hc; omega)
    show ∃ Dt', F_X5_numberOf_s21 P r Dd (F_X5_numberOf_L21 P r Dd n) _ _ _ = _
    unfold F_X5_numberOf_s21
    rw [if_neg (nI_nlt (by omega) (by omega)), s_cards hr, cal1_s, a1, cal1_s, cal1_s, hs, cal1_s, bi_if]
    unfold numF
    by_cases q : cardsA R mc k = cardsA R m2 x2
    · rw [if_pos (decide_eq_true q), er, List.find?_cons_of_pos (p := fun x => decide (cardsA R mc x = cardsA R m2 x2)) (decide_eq_true q)]
      exact ⟨D1, rfl⟩
    · rw [if_neg (by rw [decide_eq_true_eq]; exact q), er, List.find?_cons_of_neg (p := fun x => decide (cardsA R mc x = cardsA R m2 x2)) (by rw [decide_eq_true_eq]; exact q), nI_add, b1]
      exact ⟨Dt', rfl⟩
theorem C_numberOf {A : AS} {P rn r : Nat → Int32} {D T : Nat → Nat → Int32} {S : Nat → Nat → Int64} (h : CSt A P rn r D T S) (Dt : Nat → Nat → Int32) (v : Int32) :
    ∃ Dt', F_X5_numberOf P r D Dt v = some ((aNumberOf A v).1, (aNumberOf A v).2.1, Dt') := by
  unfold aNumberOf F_X5_numberOf
  rw [s_within, cal1_s, bi_if]
  by_cases q : inB v 0 1 = true
  · rw [if_pos q, if_pos q]
    obtain ⟨e1, -, b1⟩ := inB_nV (by omega) (by omega) q
    obtain ⟨Dt', a1⟩ := C_num_L (P := P) (mc := nV v) h.2.1 (by omega) h.2.2.2.2.2.2.2 501 0 FU Dt (by omega) (FU_gt (by omega))
    rw [← e1] at a1
    exact ⟨Dt', a1⟩
  · rw [if_neg q, if_neg q]
    exact ⟨Dt, rfl⟩
theorem C_odds_L {N : Nat → Nat} {P rn : Nat → Int32} {mc b x m : Nat} (hr : RR rn N) (hm : mc < 2) (hx : x ≤ 1000000) (hm8 : m ≤ 8) (hb1 : 1 ≤ b) (hb : b ≤ 400) : ∀ (j k n : Nat) (Dt Q Tt To : Nat → Nat → Int32) (Ss : Nat → Nat → Int64), k + j = m → j < n →
    ∃ Dt' Q' Tt' To' Ss', F_X5_odds_L70 P rn n Dt Q Tt To Ss (nI mc) (nI x) (nI m) (nI b) (nI (oddsW N mc b x k)) (nI (oddsL N mc b x k)) (nI k) = some (0, nI (10 * oddsW N mc b x m + oddsL N mc b x m), Dt', Q', Tt', To', Ss') := by
  intro j
  induction j with
  | zero =>
    intro k n Dt Q Tt To Ss hk hn
    obtain ⟨n, rfl⟩ : ∃ q, n = q + 1 := ⟨n - 1, by omega⟩
    refine ⟨Dt, Q, Tt, To, Ss, ?_⟩
    show F_X5_odds_s70 P rn (F_X5_odds_L70 P rn n) _ _ _ _ _ _ _ _ _ _ _ _ = _
    unfold F_X5_odds_s70 F_X5_odds_b150
    rw [if_pos (nI_le (by omega) (by omega)), pk_mul, nI_add, show k = m by omega]
  | succ j ih =>
    intro k n Dt Q Tt To Ss hk hn
    obtain ⟨n, rfl⟩ : ∃ q, n = q + 1 := ⟨n - 1, by omega⟩
    obtain ⟨D1, a1, a2⟩ := s_draw (mc := mc) (x := x + k) hm hr.2 Dt
    obtain ⟨T1, b1, b2, -⟩ := s_lay hr a2 Tt
    obtain ⟨Q1, To1, Tt1, Ss1, d1, -⟩ := s_run hr b2 (wf_dealP hr.2 hm) hb1 hb Q To Ss
    obtain ⟨Dt', Q', Tt', To', Ss', g1⟩ := ih (k + 1) n D1 Q1 Tt1 To1 Ss1 (by omega) (by omega)
    refine ⟨Dt', Q', Tt', To', Ss', ?_⟩
    rw [← g1]
    show F_X5_odds_s70 P rn (F_X5_odds_L70 P rn n) _ _ _ _ _ _ _ _ _ _ _ _ = _
    unfold F_X5_odds_s70
    rw [if_neg (nI_ge (by omega) (by omega)), s_cards hr, cal1_s, nI_add, a1, cal1_s, b1, cal1_s, d1, cal5_s]
    have eW : oddsW N mc b x (k + 1) = oddsW N mc b x k + (if (searchA N b (dealP N mc (x + k))).1 < nI 0 then 0 else 1) := rfl
    have eL : oddsL N mc b x (k + 1) = oddsL N mc b x k + (if (searchA N b (dealP N mc (x + k))).1 = -1 then 1 else 0) := rfl
    rw [eW, eL]
    by_cases q1 : (searchA N b (dealP N mc (x + k))).1 < nI 0
    · rw [if_pos q1, if_pos q1]
      by_cases q2 : (searchA N b (dealP N mc (x + k))).1 = -1
      · rw [if_pos q2, if_pos q2, nI_add, nI_add]; rfl
      · rw [if_neg q2, if_neg q2, nI_add]; rfl
    · have q2 : ¬ (searchA N b (dealP N mc (x + k))).1 = -1 := fun y => q1 (by rw [y]; decide)
      rw [if_neg q1, if_neg q1, if_neg q2, nI_add, nI_add]; rfl
theorem C_odds {A : AS} {P rn r : Nat → Int32} {D T : Nat → Nat → Int32} {S : Nat → Nat → Int64} (h : CSt A P rn r D T S) (Dt Q Tt To : Nat → Nat → Int32) (Ss : Nat → Nat → Int64) (v1 v2 v3 v4 : Int32) :
    ∃ Dt' Q' Tt' To' Ss', F_X5_odds P rn Dt Q Tt To Ss v1 v2 v3 v4 = some ((aOdds A v1 v2 v3 v4).1, (aOdds A v1 v2 v3 v4).2.1, Dt', Q', Tt', To', Ss') := by
  unfold F_X5_odds
  rw [s_within, cal1_s, bi_if, s_within, cal1_s, bi_if, s_within, cal1_s, bi_if, s_within, cal1_s, bi_if]
  have fal : ∀ {b : Bool}, ¬ b = true → b = false := fun h => by rw [← Bool.not_eq_true]; exact h
  have bad : ¬ okOdds v1 v2 v3 v4 = true → ∀ X : Option (Nat × Int32 × (Nat → Nat → Int32) × (Nat → Nat → Int32) × (Nat → Nat → Int32) × (Nat → Nat → Int32) × (Nat → Nat → Int64)), X = some (1, nI 0, Dt, Q, Tt, To, Ss) → ∃ Dt' Q' Tt' To' Ss', X = some ((aOdds A v1 v2 v3 v4).1, (aOdds A v1 v2 v3 v4).2.1, Dt', Q', Tt', To', Ss') := by
    intro q X hX
    unfold aOdds
    rw [if_neg q]
    exact ⟨Dt, Q, Tt, To, Ss, hX⟩
  by_cases q1 : inB v1 0 1 = true
  · rw [if_pos q1]
    by_cases q2 : inB v2 0 1000000 = true
    · rw [if_pos q2]
      by_cases q3 : inB v3 1 8 = true
      · rw [if_pos q3]
        by_cases q4 : inB v4 1 200 = true
        · have q : okOdds v1 v2 v3 v4 = true := by unfold okOdds; rw [q1, q2, q3, q4]; rfl
          rw [if_pos q4]
          unfold aOdds
          rw [if_pos q]
          obtain ⟨e1, -, b1⟩ := inB_nV (by omega) (by omega) q1
          obtain ⟨e2, -, b2⟩ := inB_nV (by omega) (by omega) q2
          obtain ⟨e3, -, b3⟩ := inB_nV (by omega) (by omega) q3
          obtain ⟨e4, a4, b4⟩ := inB_nV (by omega) (by omega) q4
          have := C_odds_L (N := A.1) (P := P) (mc := nV v1) (b := nV v4) (x := nV v2) (m := nV v3) h.1 (by omega) b2 b3 a4 (by omega) (nV v3) 0 FU Dt Q Tt To Ss (by omega) (FU_gt (by omega))
          rw [← e1, ← e2, ← e3, ← e4] at this
          exact this
        · rw [if_neg q4]
          exact bad (by unfold okOdds; rw [fal q4, Bool.and_false, Bool.and_false, Bool.and_false]; exact Bool.false_ne_true) _ rfl
      · rw [if_neg q3]
        exact bad (by unfold okOdds; rw [fal q3, Bool.false_and, Bool.and_false, Bool.and_false]; exact Bool.false_ne_true) _ rfl
    · rw [if_neg q2]
      exact bad (by unfold okOdds; rw [fal q2, Bool.false_and, Bool.and_false]; exact Bool.false_ne_true) _ rfl
  · rw [if_neg q1]
    exact bad (by unfold okOdds; rw [fal q1, Bool.false_and]; exact Bool.false_ne_true) _ rfl
