/-! ===== the class's table: isMove is legal ===== -/
/-- what is asked of a position, with the rules: columns and cells that there are, a card that is up lies nowhere -/
def WF (R : Nat → Nat) (P : Pos) : Prop :=
  PosOk P ∧ (∀ p, p < 5 → R 2 ≤ p → P.1 p = []) ∧ (∀ k, k < 2 → (P.1 (5 + k)).length ≤ 1 ∧ (R 3 ≤ k → P.1 (5 + k) = [])) ∧
  (∀ p c, c ∈ P.1 p → c < R 0 * R 1 ∧ P.2.2.1 (c / R 1) ≤ c % R 1) ∧
  (∀ c, c < R 0 * R 1 → P.2.2.1 (c / R 1) ≤ c % R 1 → ∃ p, c ∈ P.1 p) ∧
  (∀ s, P.2.2.1 s ≤ R 1) ∧ (∀ s, R 0 ≤ s → P.2.2.1 s = 0) ∧
  (P.1 7).length + (P.1 9).length ≤ R 6 ∧ P.2.2.2 ≤ R 7
theorem WF.on20 {R : Nat → Nat} {P : Pos} (w : WF R P) {c : Nat} (hc : c < R 0 * R 1) : onN P c = 20 ↔ c % R 1 < P.2.2.1 (c / R 1) := by
  rw [onN_20 w.1]
  constructor
  · intro h
    rcases Nat.lt_or_ge (c % R 1) (P.2.2.1 (c / R 1)) with q | q
    · exact q
    · obtain ⟨p, hp⟩ := w.2.2.2.2.1 c hc q
      exact absurd hp (h p)
  · intro h p hp
    have := (w.2.2.2.1 p c hp).2
    omega
theorem s_isNextUp {T : Nat → Nat → Int32} {r : Nat → Int32} {R : Nat → Nat} {P : Pos} (h : TRep T P) (w : WF R P) (hr : RR r R) {p c : Nat} (hc : c ∈ P.1 p) : F_X4_isNextUp T r (nI c) = some (bi (decide (c % R 1 = P.2.2.1 (c / R 1)))) := by
  have hR := hr.2
  have hR2 := hr.2
  unfold RulesOk at hR
  have hc16 := w.1.1 p c hc
  have hcn := w.2.2.2.1 p c hc
  have hm := mod_lt1 hR2 c
  unfold F_X4_isNextUp
  rw [s_rankOf hr hc16, cal1_s]
  by_cases q : c % R 1 = 0
  · rw [if_pos (by rw [q]), zb1]
    have : P.2.2.1 (c / R 1) = 0 := by omega
    rw [q, this]; rfl
  · have hc1 : c ≠ 0 := fun e => q (by rw [e]; exact Nat.zero_mod _)
    rw [if_neg (by rw [nI_eq (by omega) (by omega)]; omega), pk_sub (by omega), s_isUp h w.1 (by omega), cal1_s]
    have hd : c = R 1 * (c / R 1) + c % R 1 := (Nat.div_add_mod c (R 1)).symm
    have hz : (c % R 1 - 1) / R 1 = 0 := Nat.div_eq_of_lt (by omega)
    have e1 : (c - 1) / R 1 = c / R 1 := by
      rw [show c - 1 = R 1 * (c / R 1) + (c % R 1 - 1) by omega, Nat.mul_add_div (by omega), hz, Nat.add_zero]
    have e2 : (c - 1) % R 1 = c % R 1 - 1 := by
      rw [show c - 1 = R 1 * (c / R 1) + (c % R 1 - 1) by omega, Nat.mul_add_mod, Nat.mod_eq_of_lt (by omega)]
    have e3 := w.on20 (show c - 1 < R 0 * R 1 by omega)
    rw [e1, e2] at e3
    by_cases z : onN P (c - 1) = 20
    · have := e3.mp z
      have e4 : c % R 1 = P.2.2.1 (c / R 1) := by omega
      simp only [z, e4, decide_true, bi_t]
      rfl
    · have : ¬ (c % R 1 - 1 < P.2.2.1 (c / R 1)) := fun y => z (e3.mpr y)
      have e4 : ¬ c % R 1 = P.2.2.1 (c / R 1) := by omega
      simp only [z, e4, decide_false, bi_f]
      rfl
theorem s_isForColumn {T : Nat → Nat → Int32} {r : Nat → Int32} {R : Nat → Nat} {P : Pos} (h : TRep T P) (ho : PosOk P) (hr : RR r R) {t c : Nat} (ht : t < 5) (hc : c < 16) : F_X4_isForColumn T r (nI c) (nI t) = some (bi (forCol R (P.1 t) c)) := by
  unfold F_X4_isForColumn
  rw [s_topOf h (by omega), cal1_s]
  cases e : P.1 t with
  | nil =>
    rw [show topI [] = (-1 : Int32) from rfl, if_pos rfl, s_isForEmpty hr hc, cal1_s, zb_bi]; rfl
  | cons o l =>
    have ho16 : o < 16 := ho.1 t o (by rw [e]; simp)
    rw [show topI (o :: l) = nI o from rfl, if_neg (by rw [nI_negone (by omega)]; exact id), s_isFitting hr hc ho16, cal1_s, zb_bi]; rfl
theorem s_isStockMove {T : Nat → Nat → Int32} {r : Nat → Int32} {R : Nat → Nat} {P : Pos} (h : TRep T P) (ho : PosOk P) (hr : RR r R) : F_X4_isStockMove T r = some (bi (!(P.1 9).isEmpty || (!(P.1 7).isEmpty && decide (P.2.2.2 < R 7)))) := by
  have hR := hr.2
  unfold RulesOk at hR
  have ht := h.2.2.2.2
  unfold F_X4_isStockMove
  rw [s_topOf h (by omega), cal1_s, s_topOf h (by omega), cal1_s, hr.1 7 (by omega), h.2.2.2.1]
  cases e : P.1 9 with
  | nil =>
    rw [show topI [] = (-1 : Int32) from rfl, if_pos rfl]
    cases e2 : P.1 7 with
    | nil => rw [show topI [] = (-1 : Int32) from rfl, if_pos rfl]; rfl
    | cons c l =>
      have := ho.1 7 c (by rw [e2]; simp)
      rw [show topI (c :: l) = nI c from rfl, if_neg (by rw [nI_negone (by omega)]; exact id)]
      by_cases q : R 7 ≤ P.2.2.2
      · rw [if_pos (nI_le q (by omega)), zb0]
        simp [show ¬ P.2.2.2 < R 7 by omega, bi]
      · rw [if_neg (nI_ge (by omega) (by omega)), zb1]
        simp [show P.2.2.2 < R 7 by omega, bi]
  | cons c l =>
    have := ho.1 9 c (by rw [e]; simp)
    rw [show topI (c :: l) = nI c from rfl, if_neg (by rw [nI_negone (by omega)]; exact id), zb1]
    rfl
theorem bi_if (b : Bool) {α : Type} (x y : α) : (if bi b = nI 0 then x else y) = if b = true then y else x := by cases b <;> rfl
theorem s_isMove {T : Nat → Nat → Int32} {r : Nat → Int32} {R : Nat → Nat} {P : Pos} (h : TRep T P) (w : WF R P) (hr : RR r R) {f t n : Nat} (hf : f < 10) (ht : t < 9) (hn : 1 ≤ n) (hn16 : n ≤ 16) (h1 : n = 1 ∨ (f < 5 ∧ t < 5)) : F_X4_isMove T r (nI f) (nI t) (nI n) = some (bi (legal R P f t n)) := by
  have hR := hr.2
  have hR2 := hr.2
  unfold RulesOk at hR
  have ho := w.1
  unfold F_X4_isMove F_X4_isMove_b145 legal
  by_cases f9 : f = 9
  · subst f9
    rw [if_pos rfl, if_pos rfl]
    by_cases t7 : t = 7
    · subst t7
      rw [if_pos rfl, s_isStockMove h ho hr, cal1_s, bi_if]
      cases (!(P.1 9).isEmpty || (!(P.1 7).isEmpty && decide (P.2.2.2 < R 7))) <;> rfl
    · rw [if_neg (by rw [nI_eq (by omega) (by omega)]; exact t7), zb0]
      simp [t7, bi]
  · rw [if_neg (by rw [nI_eq (by omega) (by omega)]; exact f9), if_neg f9, s_topOf h hf, cal1_s]
    cases e : P.1 f with
    | nil => rw [show topI [] = (-1 : Int32) from rfl, if_pos rfl]; rfl
    | cons c l =>
      have hcm : c ∈ P.1 f := by rw [e]; simp
      have hc16 := ho.1 f c hcm
      rw [show topI (c :: l) = nI c from rfl, if_neg (by rw [nI_negone (by omega)]; exact id)]
      dsimp only
      by_cases ft : f = t
      · subst ft
        rw [if_pos rfl, zb0]
        have f8 : f ≠ 8 := (ho.place hcm).2
        simp only [f8, if_false]
        by_cases f56 : f = 5 ∨ f = 6
        · simp only [f56, if_true]
          have : ¬ (f < 5 ∨ f = 7) := by omega
          simp [this, bi]
        · simp only [f56, if_false]
          by_cases f5 : f < 5 <;> simp [f5, bi]
      · rw [if_neg (by rw [nI_eq (by omega) (by omega)]; exact ft)]
        by_cases t8 : t = 8
        · subst t8
          rw [if_pos rfl, if_pos rfl, s_isNextUp h w hr hcm, cal1_s, zb_bi]
        · rw [if_neg (by rw [nI_eq (by omega) (by omega)]; exact t8), if_neg t8, s_isCell (by omega), cal1_s, bi_if]
          by_cases t56 : t = 5 ∨ t = 6
          · simp only [t56, decide_true, if_true]
            rw [s_isCell (by omega), cal1_s, bi_if]
            by_cases f56 : f = 5 ∨ f = 6
            · have : ¬ (f < 5 ∨ f = 7) := by omega
              simp only [f56, this, decide_true, decide_false, if_true, zb0, Bool.false_and, bi_f]
            · have f8 : f ≠ 8 := (ho.place hcm).2
              have : f < 5 ∨ f = 7 := by omega
              simp only [f56, this, decide_true, decide_false, Bool.true_and, Bool.false_eq_true, if_false]
              rw [hr.1 3 (by omega), pk_sub (by omega)]
              by_cases q : R 3 ≤ t - 5
              · rw [if_pos (nI_le q (by omega)), zb0]
                simp [show ¬ t - 5 < R 3 by omega, bi]
              · rw [if_neg (nI_ge (by omega) (by omega)), s_topOf h (by omega), cal1_s]
                simp only [topI_neg1 _ (ho.1 t), show t - 5 < R 3 by omega, decide_true, Bool.true_and]
                cases (P.1 t).isEmpty <;> rfl
          · simp only [t56, decide_false, Bool.false_eq_true, if_false]
            rw [s_isColumn (by omega), cal1_s, bi_if]
            by_cases t5 : t < 5
            · simp only [t5, decide_true, if_true]
              rw [hr.1 2 (by omega)]
              by_cases tR : t < R 2
              · rw [if_pos (nI_lt tR (by omega))]
                simp only [tR, ft, ne_eq, not_false_eq_true, decide_true, Bool.true_and]
                have hfr : ∀ k, k ≤ 16 → F_X4_fromTop T (nI f) (nI k) = some (optI (P.1 f)[k]?) := fun k hk => s_fromTop h ho hf (by omega)
                by_cases f5 : f < 5
                · simp only [f5, if_true]
                  have hhid : P.2.1 f < (c :: l).length := by
                    have := ho.2.2.2.2.1 f
                    rw [e] at this
                    rcases this with q | q
                    · rw [q]; simp
                    · exact q
                  rw [isRun_runLen (c :: l) n hn hhid]
                  have hml := most_le hR2 P t
                  have hrl := runLen_le R (P.2.1 f) (c :: l)
                  have hlen := ho.len f
                  rw [e] at hlen
                  by_cases n1 : n = 1
                  · subst n1
                    rw [if_pos (by exact Int32.le_refl _), pk_sub (by omega), hfr 0 (by omega), cal1_s, e]
                    rw [show ((c :: l)[1 - 1]?) = some c from rfl, optI_some, s_isForColumn h ho hr t5 hc16, cal1_s, zb_bi]
                    have e1 := runLen_pos (R := R) (P.2.1 f) (c :: l) (by simp)
                    have e2 : 1 ≤ most R P t := by
                      unfold most
                      exact Nat.mul_pos (by omega) (Nat.pow_pos (by omega))
                    simp [e1, e2]
                  · rw [if_neg (nI_ge (by omega) (by omega)), s_runOf h ho hr f5, cal1_s, e]
                    by_cases q : n ≤ runLen R (P.2.1 f) (c :: l)
                    · rw [if_neg (nI_nlt q (by omega)), s_mostTo h ho hr t5, cal1_s]
                      simp only [q, decide_true, Bool.true_and]
                      by_cases q2 : n ≤ most R P t
                      · rw [if_pos (nI_le q2 (by omega)), pk_sub (by omega), hfr (n - 1) (by omega), cal1_s]
                        have hlt : n - 1 < (P.1 f).length := by rw [e]; omega
                        have hg : (P.1 f)[n - 1]? = some ((c :: l).getD (n - 1) 0) := by
                          rw [e] at hlt ⊢
                          rw [List.getElem?_eq_getElem hlt, List.getD_eq_getElem?_getD, List.getElem?_eq_getElem hlt]; rfl
                        have h16 := ho.1 f _ (List.mem_of_getElem? hg)
                        rw [hg, optI_some, s_isForColumn h ho hr t5 h16, cal1_s, zb_bi]
                        simp [q2]
                      · rw [if_neg (nI_ge (by omega) (by omega)), zb0]
                        simp [q2, bi]
                    · rw [if_pos (nI_lt (by omega) (by omega)), zb0]
                      simp [q, bi]
                · simp only [f5, if_false]
                  have n1 : n = 1 := by omega
                  subst n1
                  rw [if_pos (by exact Int32.le_refl _), pk_sub (by omega), hfr 0 (by omega), cal1_s, e]
                  rw [show ((c :: l)[1 - 1]?) = some c from rfl, optI_some, s_isForColumn h ho hr t5 hc16, cal1_s, zb_bi]
              · rw [if_neg (nI_nlt (by omega) (by omega)), zb0]
                simp [tR, bi]
            · simp only [t5, decide_false, Bool.false_eq_true, if_false, zb0, bi_f]
