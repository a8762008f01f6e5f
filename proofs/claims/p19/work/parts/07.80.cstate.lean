/-! ===== the class's whole state; its rules ===== -/
def CSt (A : AS) (P rn r : Nat → Int32) (D T : Nat → Nat → Int32) (S : Nat → Nat → Int64) : Prop :=
  RR rn A.1 ∧ RR r A.2.1 ∧ TRep T (cur A.2.2.1) ∧ P 7 = nI (A.2.2.1.length - 1) ∧ P 8 = nI A.2.2.2.1 ∧ P 9 = A.2.2.2.2.1 ∧ (∀ i Q, A.2.2.1[i]? = some Q → i + 1 < A.2.2.1.length → SRow S i Q) ∧ DRep D (cardsA A.2.1 A.2.2.2.2.2.1 A.2.2.2.2.2.2)
theorem s_within (v : Int32) (a b : Nat) : F_X5_isWithin v (nI a) (nI b) = some (bi (inB v a b)) := by
  unfold F_X5_isWithin inB
  by_cases q1 : v < nI a
  · rw [if_pos q1, decide_eq_false (Int32.not_le.mpr q1)]; rfl
  · rw [if_neg q1, decide_eq_true (Int32.not_lt.mp q1)]
    by_cases q2 : nI b < v
    · rw [if_pos q2, decide_eq_false (Int32.not_le.mpr q2)]; rfl
    · rw [if_neg q2, decide_eq_true (Int32.not_lt.mp q2)]; rfl
theorem C_deck {A : AS} {P rn r : Nat → Int32} {D T : Nat → Nat → Int32} {S : Nat → Nat → Int64} (hA : okA A) (h : CSt A P rn r D T S) (v1 v2 : Int32) :
    ∃ rn', F_X5_deck P rn v1 v2 = some ((aDeck A v1 v2).1, (aDeck A v1 v2).2.1, rn') ∧ CSt (aDeck A v1 v2).2.2 P rn' r D T S := by
  have e7 : rn 6 = nI (A.1 6) := h.1.1 6 (by omega)
  have e : F_X5_deck P rn v1 v2 = if okDeck A.1 v1 v2 = true then some (0, v1 * v2, upd (upd rn 0 v1) 1 v2) else some (1, nI 0, rn) := by
    unfold F_X5_deck
    rw [s_within, cal1_s, bi_if, s_within, cal1_s, bi_if, s_within, cal1_s, bi_if, e7, bnd_s, bnd_s]
    unfold okDeck
    cases inB v1 1 4 <;> cases inB v2 1 6 <;> cases inB (v1 * v2) 2 16 <;> simp only [Bool.true_and, Bool.false_and, if_true, Bool.false_eq_true, if_false]
    by_cases q : nI (A.1 6) < v1 * v2
    · rw [decide_eq_true q, if_pos q, if_pos rfl]
    · rw [decide_eq_false q, if_neg q, if_neg Bool.false_ne_true]
  rw [e]
  unfold aDeck
  by_cases q : okDeck A.1 v1 v2 = true
  · rw [if_pos q, if_pos q]
    obtain ⟨rk, e1, e2⟩ := okDeck_rules hA.1 q
    refine ⟨_, rfl, ⟨fun k hk => ?_, rk⟩, h.2⟩
    rw [upd_s, upd_s]
    show _ = nI (if k = 0 then nV v1 else if k = 1 then nV v2 else A.1 k)
    by_cases k0 : k = 0
    · rw [if_neg (by omega), if_pos k0, if_pos k0]; exact e1
    · by_cases k1 : k = 1
      · rw [if_pos k1, if_neg k0, if_pos k1]; exact e2
      · rw [if_neg k1, if_neg k0, if_neg k0, if_neg k1]; exact h.1.1 k hk
  · rw [if_neg q, if_neg q]
    exact ⟨rn, rfl, h⟩
theorem C_table {A : AS} {P rn r : Nat → Int32} {D T : Nat → Nat → Int32} {S : Nat → Nat → Int64} (hA : okA A) (h : CSt A P rn r D T S) (v1 v2 v3 v4 : Int32) :
    ∃ rn', F_X5_table P rn v1 v2 v3 v4 = some ((aTable A v1 v2 v3 v4).1, rn') ∧ CSt (aTable A v1 v2 v3 v4).2.2 P rn' r D T S := by
  have e : F_X5_table P rn v1 v2 v3 v4 = if okTable v1 v2 v3 v4 = true then some (0, upd (upd (upd (upd rn 2 v1) 3 v2) 4 v3) 5 v4) else some (1, rn) := by
    unfold F_X5_table
    rw [s_within, cal1_s, bi_if, s_within, cal1_s, bi_if, s_within, cal1_s, bi_if, s_within, cal1_s, bi_if, bnd_s, bnd_s, bnd_s, bnd_s]
    unfold okTable
    cases inB v1 1 5 <;> cases inB v2 0 2 <;> cases inB v3 0 2 <;> cases inB v4 0 2 <;> rfl
  rw [e]
  unfold aTable
  by_cases q : okTable v1 v2 v3 v4 = true
  · rw [if_pos q, if_pos q]
    obtain ⟨rk, e1, e2, e3, e4⟩ := okTable_rules hA.1 q
    refine ⟨_, rfl, ⟨fun k hk => ?_, rk⟩, h.2⟩
    rw [upd_s, upd_s, upd_s, upd_s]
    show _ = nI (if k = 2 then nV v1 else if k = 3 then nV v2 else if k = 4 then nV v3 else if k = 5 then nV v4 else A.1 k)
    by_cases k2 : k = 2
    · rw [if_neg (by omega), if_neg (by omega), if_neg (by omega), if_pos k2, if_pos k2]; exact e1
    · by_cases k3 : k = 3
      · rw [if_neg (by omega), if_neg (by omega), if_pos k3, if_neg k2, if_pos k3]; exact e2
      · by_cases k4 : k = 4
        · rw [if_neg (by omega), if_pos k4, if_neg k2, if_neg k3, if_pos k4]; exact e3
        · by_cases k5 : k = 5
          · rw [if_pos k5, if_neg k2, if_neg k3, if_neg k4, if_pos k5]; exact e4
          · rw [if_neg k5, if_neg k4, if_neg k3, if_neg k2, if_neg k2, if_neg k3, if_neg k4, if_neg k5]; exact h.1.1 k hk
  · rw [if_neg q, if_neg q]
    exact ⟨rn, rfl, h⟩
theorem C_stock {A : AS} {P rn r : Nat → Int32} {D T : Nat → Nat → Int32} {S : Nat → Nat → Int64} (hA : okA A) (h : CSt A P rn r D T S) (v1 v2 : Int32) (b : Bool) :
    ∃ rn', F_X5_stock P rn v1 v2 (bi b) = some ((aStock A v1 v2 b).1, rn') ∧ CSt (aStock A v1 v2 b).2.2 P rn' r D T S := by
  have e : F_X5_stock P rn v1 v2 (bi b) = if okStock A.1 v1 v2 = true then some (0, upd (upd (upd rn 6 v1) 7 v2) 8 (bi b)) else some (1, rn) := by
    unfold F_X5_stock
    rw [s_within, cal1_s, bi_if, s_within, cal1_s, bi_if, s_cards h.1, cal1_s, bnd_s, bnd_s, zb_bi, bnd_s]
    unfold okStock
    cases inB v1 0 8 <;> cases inB v2 0 2 <;> simp only [Bool.true_and, Bool.false_and, if_true, Bool.false_eq_true, if_false]
    by_cases q : v1 < nI (A.1 0 * A.1 1)
    · rw [decide_eq_true q, if_pos q, if_pos rfl]
    · rw [decide_eq_false q, if_neg q, if_neg Bool.false_ne_true]
  rw [e]
  unfold aStock
  by_cases q : okStock A.1 v1 v2 = true
  · rw [if_pos q, if_pos q]
    obtain ⟨rk, e1, e2⟩ := okStock_rules (b := b) hA.1 q
    refine ⟨_, rfl, ⟨fun k hk => ?_, rk⟩, h.2⟩
    rw [upd_s, upd_s, upd_s]
    show _ = nI (if k = 6 then nV v1 else if k = 7 then nV v2 else if k = 8 then (if b = true then 1 else 0) else A.1 k)
    by_cases k6 : k = 6
    · rw [if_neg (by omega), if_neg (by omega), if_pos k6, if_pos k6]; exact e1
    · by_cases k7 : k = 7
      · rw [if_neg (by omega), if_pos k7, if_neg k6, if_pos k7]; exact e2
      · by_cases k8 : k = 8
        · rw [if_pos k8, if_neg k6, if_neg k7, if_pos k8]; exact bi_nI b
        · rw [if_neg k8, if_neg k7, if_neg k6, if_neg k6, if_neg k7, if_neg k8]; exact h.1.1 k hk
  · rw [if_neg q, if_neg q]
    exact ⟨rn, rfl, h⟩
