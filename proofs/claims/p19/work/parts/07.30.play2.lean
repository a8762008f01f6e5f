/-! ===== the class's table: turnOver, play; a move keeps what is asked of a position ===== -/
def turnP (P : Pos) : Pos := (fun p => if p = 9 then (P.1 7).reverse ++ P.1 9 else if p = 7 then [] else P.1 p, P.2.1, P.2.2.1, P.2.2.2 + 1)
def playP (R : Nat → Nat) (P : Pos) (f t n : Nat) : Pos :=
  if f = 9 then (if (P.1 9).isEmpty = true then turnP P else carryP P 9 7 1)
  else ((carryP P f t n).1, (carryP P f t n).2.1, (if t = 8 then fun s => if s = (P.1 f).headD 0 / R 1 then P.2.2.1 s + 1 else P.2.2.1 s else P.2.2.1), P.2.2.2)
theorem carry_hid5 {P : Pos} (ho : PosOk P) {f t n : Nat} (hf : 5 ≤ f) : (carryP P f t n).2.1 = P.2.1 := by
  funext p
  unfold carryP; dsimp only
  by_cases q : p = f
  · subst q; rw [if_pos rfl, ho.2.2.2.2.2 p hf, if_neg (by omega)]
  · rw [if_neg q]
theorem s_turnOver_L {k : Nat} : ∀ (T : Nat → Nat → Int32) (P : Pos) (g n : Nat), TRep T P → PosOk P → (P.1 7).length = k → k + g ≤ 16 → k < n → P.2.2.2 < 2 → ∃ T', F_X4_turnOver_L2 n T (nI g) = some T' ∧ TRep T' (turnP P) := by
  induction k with
  | zero =>
    intro T P g n h ho hk hg hn ht
    obtain ⟨n, rfl⟩ : ∃ m, n = m + 1 := ⟨n - 1, by omega⟩
    have e7 : P.1 7 = [] := List.length_eq_zero_iff.mp hk
    have fin : ∃ T', F_X4_turnOver_b33 T = some T' ∧ TRep T' (turnP P) := by
      unfold F_X4_turnOver_b33
      rw [bnd_s, h.2.2.2.1, nI_add]
      refine ⟨_, rfl, ?_⟩
      have e1 : (turnP P).1 = P.1 := by
        funext p; unfold turnP; dsimp only
        by_cases q : p = 9
        · subst q; rw [if_pos rfl, e7]; rfl
        · rw [if_neg q]
          by_cases q2 : p = 7
          · subst q2; rw [if_pos rfl, e7]
          · rw [if_neg q2]
      refine ⟨fun p hp => ?_, fun c hc => ?_, ?_, ?_, ?_⟩
      · rw [e1]; simpa [st2_s] using h.1 p hp
      · have : onN (turnP P) c = onN P c := by unfold onN; rw [e1]
        rw [this]; simpa [st2_s] using h.2.1 c hc
      · obtain ⟨m, h1, h2, h3⟩ := h.2.2.1
        refine ⟨m, h1, by simpa [st2_s] using h2, fun c hc => ?_⟩
        rw [h3 c hc]; unfold hidB; rw [e1]; rfl
      · simp [st2_s, turnP]
      · show P.2.2.2 + 1 ≤ 2; omega
    show ∃ T', F_X4_turnOver_s2 (F_X4_turnOver_L2 n) T (nI g) = some T' ∧ _
    unfold F_X4_turnOver_s2
    by_cases q : 16 ≤ g
    · rw [if_pos (nI_le q (by omega))]; exact fin
    · rw [if_neg (nI_ge (by omega) (by omega)), s_topOf h (by omega), cal1_s, e7, show topI [] = (-1 : Int32) from rfl, if_pos rfl]; exact fin
  | succ k ih =>
    intro T P g n h ho hk hg hn ht
    obtain ⟨n, rfl⟩ : ∃ m, n = m + 1 := ⟨n - 1, by omega⟩
    show ∃ T', F_X4_turnOver_s2 (F_X4_turnOver_L2 n) T (nI g) = some T' ∧ _
    unfold F_X4_turnOver_s2
    have hne : P.1 7 ≠ [] := fun e => by rw [e] at hk; simp at hk
    have h70 : P.2.1 7 = 0 := ho.2.2.2.2.2 7 (by omega)
    rw [if_neg (nI_ge (by omega) (by omega)), s_topOf h (by omega), cal1_s, if_neg (fun e => by rw [topI_neg1 _ (ho.1 7)] at e; exact hne (List.isEmpty_iff.mp e))]
    obtain ⟨T1, e1, h1⟩ := s_carry h ho (f := 7) (t := 9) (n := 1) (by omega) (by omega) (by omega) (by omega) (by omega) (by omega) (by omega)
    rw [e1, cal1_s, nI_add]
    have ho1 := carryP_ok ho (f := 7) (t := 9) (n := 1) (by omega) (by omega) (by omega) (by omega)
    have e7 : (carryP P 7 9 1).1 7 = (P.1 7).drop 1 := by simp [carryP]
    have e9 : (carryP P 7 9 1).1 9 = (P.1 7).take 1 ++ P.1 9 := by simp [carryP]
    obtain ⟨T', e2, h2⟩ := ih T1 (carryP P 7 9 1) (g + 1) n h1 ho1 (by rw [e7, List.length_drop]; omega) (by omega) (by omega) ht
    refine ⟨T', e2, ?_⟩
    have e3 : turnP (carryP P 7 9 1) = turnP P := by
      unfold turnP
      rw [carry_hid5 ho (by omega), e7, e9]
      refine Prod.ext ?_ rfl
      funext p
      dsimp only
      by_cases q : p = 9
      · rw [if_pos q, if_pos q]
        cases hc : P.1 7 with
        | nil => exact absurd hc hne
        | cons c w => simp
      · rw [if_neg q, if_neg q]
        by_cases q2 : p = 7
        · rw [if_pos q2, if_pos q2]
        · rw [if_neg q2, if_neg q2]
          unfold carryP; dsimp only
          rw [if_neg q2, if_neg (fun e => q e.1)]
    rw [← e3]; exact h2
theorem s_turnOver {T : Nat → Nat → Int32} {P : Pos} (h : TRep T P) (ho : PosOk P) (ht : P.2.2.2 < 2) : ∃ T', F_X4_turnOver T = some T' ∧ TRep T' (turnP P) := by
  have := ho.len 7
  exact s_turnOver_L T P 0 FU h ho rfl (by omega) (FU_gt (by omega)) ht
theorem legal_facts {R : Nat → Nat} {P : Pos} (ho : PosOk P) {f t n : Nat} (hn : 1 ≤ n) (h1 : n = 1 ∨ (f < 5 ∧ t < 5)) (h9 : f ≠ 9) (h : legal R P f t n = true) :
    f < 10 ∧ f ≠ 8 ∧ f ≠ t ∧ (t < 7 ∨ t = 8) ∧ n ≤ (P.1 f).length ∧ P.2.1 f + n ≤ (P.1 f).length ∧ P.1 f ≠ [] := by
  have hft : f ≠ t := fun e => by subst e; exact h9 (legal_same ho h)
  have h' := h
  unfold legal at h
  rw [if_neg h9] at h
  cases e : P.1 f with
  | nil => rw [e] at h; cases h
  | cons c l =>
    rw [e] at h
    dsimp only at h
    have hp := ho.place (show c ∈ P.1 f by rw [e]; simp)
    have hh := hid_lt ho (show P.1 f ≠ [] by rw [e]; simp)
    rw [e] at hh
    refine ⟨hp.1, hp.2, hft, ?_, ?_, ?_, by simp⟩
    · by_cases t8 : t = 8
      · exact Or.inr t8
      · rw [if_neg t8] at h
        by_cases t56 : t = 5 ∨ t = 6
        · omega
        · rw [if_neg t56] at h
          by_cases t5 : t < 5
          · omega
          · rw [if_neg t5] at h; cases h
    · rcases h1 with q | q
      · subst q; simp
      · have := legal_run ho q.1 q.2 hn h'
        have h3 := runLen_le R (P.2.1 f) (P.1 f)
        rw [e] at this h3; omega
    · rcases h1 with q | q
      · subst q; omega
      · have h2 : isRun R (c :: l) (P.2.1 f) n = true := by
          rw [if_neg (by omega), if_neg (by omega), if_pos q.2] at h
          simp only [Bool.and_eq_true, q.1, if_true] at h
          exact h.2.2.1
        unfold isRun at h2
        simp only [Bool.and_eq_true, decide_eq_true_eq] at h2
        exact h2.1
theorem s_play {T : Nat → Nat → Int32} {R : Nat → Nat} {P : Pos} (h : TRep T P) (w : WF R P) (hR : RulesOk R) {f t n : Nat} (hf : f < 10) (ht : t < 9) (hn : 1 ≤ n) (hn16 : n ≤ 16) (h1 : n = 1 ∨ (f < 5 ∧ t < 5)) (hl : legal R P f t n = true) :
    ∃ T', F_X4_play T (nI (codeN f t n)) = some T' ∧ TRep T' (playP R P f t n) := by
  have ho := w.1
  have c1 : codeN f t n / 1000 = f := by unfold codeN; omega
  have c2 : codeN f t n / 100 = 10 * f + t := by unfold codeN; omega
  have c3 : codeN f t n % 100 = n := by unfold codeN; omega
  have cb : codeN f t n < 10000 := by unfold codeN; omega
  unfold F_X4_play
  rw [nz_n _ (by omega) (by omega), nz_n _ (by omega) (by omega), nz_n _ (by omega) (by omega), nz_n _ (by omega) (by omega)]
  rw [pk_div (by omega) (by omega) (by omega), pk_div (by omega) (by omega) (by omega), c1, c2, pk_rem (by omega) (by omega) (by omega), show (10 * f + t) % 10 = t by omega]
  by_cases f9 : f = 9
  · subst f9
    rw [if_pos rfl, s_topOf h (by omega), cal1_s]
    have hl2 := hl
    unfold legal at hl2
    rw [if_pos rfl] at hl2
    simp only [Bool.and_eq_true, decide_eq_true_eq, Bool.or_eq_true] at hl2
    unfold playP
    rw [if_pos rfl]
    by_cases q : (P.1 9).isEmpty = true
    · rw [if_pos ((topI_neg1 _ (ho.1 9)).mpr q), if_pos q]
      have htu : P.2.2.2 < 2 := by
        rcases hl2.2 with z | z
        · rw [q] at z; cases z
        · have := hR.2.2.2.2.2.2.2.2.2.2.2.2.2.1; omega
      obtain ⟨T', e, h'⟩ := s_turnOver h ho htu
      exact ⟨T', by rw [e, cal1_s], h'⟩
    · rw [if_neg (fun z => q ((topI_neg1 _ (ho.1 9)).mp z)), if_neg q]
      have hlen : 1 ≤ (P.1 9).length := by
        cases e : P.1 9 with
        | nil => rw [e] at q; exact absurd rfl q
        | cons => simp
      obtain ⟨T', e, h'⟩ := s_carry h ho (f := 9) (t := 7) (n := 1) (by omega) (by omega) (by omega) (by omega) hlen (by rw [ho.2.2.2.2.2 9 (by omega)]; omega) (by omega)
      exact ⟨T', by rw [e, cal1_s], h'⟩
  · rw [if_neg (by rw [nI_eq (by omega) (by omega)]; exact f9)]
    have e0 : nI (codeN f t n) - nI (10 * f + t) * nI 100 = nI n := by
      rw [pk_mul, pk_sub (by unfold codeN; omega)]; congr 1; unfold codeN; omega
    rw [e0]
    obtain ⟨-, hf8, hft, ht2, hlen, hh, -⟩ := legal_facts ho hn h1 f9 hl
    obtain ⟨T', e, h'⟩ := s_carry h ho hf (by omega) hft hn hlen hh (fun z => by omega)
    refine ⟨T', by rw [e, cal1_s], ?_⟩
    unfold playP
    rw [if_neg f9]
    exact h'
