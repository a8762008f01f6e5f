/-! ===== what is asked of a position holds behind a move ===== -/
theorem turnP_ok {P : Pos} (ho : PosOk P) : PosOk (turnP P) := by
  have mem : ∀ p c, c ∈ (turnP P).1 p → (p = 9 ∧ (c ∈ P.1 7 ∨ c ∈ P.1 9)) ∨ (p ≠ 9 ∧ p ≠ 7 ∧ c ∈ P.1 p) := by
    intro p c hc
    unfold turnP at hc; dsimp only at hc
    by_cases q : p = 9
    · rw [if_pos q, List.mem_append, List.mem_reverse] at hc; exact Or.inl ⟨q, hc⟩
    · rw [if_neg q] at hc
      by_cases q2 : p = 7
      · rw [if_pos q2] at hc; cases hc
      · rw [if_neg q2] at hc; exact Or.inr ⟨q, q2, hc⟩
  refine ⟨?_, ?_, ?_, ?_, ?_, ?_⟩
  · intro p c hc
    rcases mem p c hc with ⟨-, q | q⟩ | ⟨-, -, q⟩ <;> exact ho.1 _ c q
  · intro p
    unfold turnP; dsimp only
    by_cases q : p = 9
    · rw [if_pos q, List.nodup_append]
      refine ⟨(List.reverse_perm (P.1 7)).symm.nodup (ho.2.1 7), ho.2.1 9, ?_⟩
      intro a ha b hb e
      subst e
      have := ho.2.2.1 7 9 a (List.mem_reverse.mp ha) hb
      omega
    · rw [if_neg q]
      by_cases q2 : p = 7
      · rw [if_pos q2]; exact List.nodup_nil
      · rw [if_neg q2]; exact ho.2.1 p
  · intro p q c hp hq
    rcases mem p c hp with ⟨p1, p2⟩ | ⟨p1, p2, p3⟩ <;> rcases mem q c hq with ⟨q1, q2⟩ | ⟨q1, q2, q3⟩
    · omega
    · rcases p2 with z | z
      · exact absurd (ho.2.2.1 q 7 c q3 z) q2
      · exact absurd (ho.2.2.1 q 9 c q3 z) q1
    · rcases q2 with z | z
      · exact absurd (ho.2.2.1 p 7 c p3 z) p2
      · exact absurd (ho.2.2.1 p 9 c p3 z) p1
    · exact ho.2.2.1 p q c p3 q3
  · intro p hp
    unfold turnP; dsimp only
    rw [if_neg (by omega)]
    by_cases q2 : p = 7
    · rw [if_pos q2]
    · rw [if_neg q2]; exact ho.2.2.2.1 p hp
  · intro p
    unfold turnP; dsimp only
    have h1 := ho.2.2.2.2.1 p
    have h2 := ho.2.2.2.2.2 p
    rcases h1 with z | z
    · exact Or.inl z
    · by_cases q : p = 9
      · exact Or.inl (h2 (by omega))
      · by_cases q2 : p = 7
        · exact Or.inl (h2 (by omega))
        · right; rw [if_neg q, if_neg q2]; exact z
  · exact ho.2.2.2.2.2
theorem div_unique {d a b : Nat} (h1 : a / d = b / d) (h2 : a % d = b % d) : a = b := by
  have h3 := Nat.div_add_mod a d
  have h4 := Nat.div_add_mod b d
  rw [h1, h2] at h3
  omega
theorem div_lt_R {R : Nat → Nat} {c : Nat} (hc : c < R 0 * R 1) : c / R 1 < R 0 := Nat.div_lt_of_lt_mul (by rw [Nat.mul_comm]; exact hc)
theorem wf_play {R : Nat → Nat} {P : Pos} (w : WF R P) (hR : RulesOk R) {f t n : Nat} (hn : 1 ≤ n) (h1 : n = 1 ∨ (f < 5 ∧ t < 5)) (hl : legal R P f t n = true) : WF R (playP R P f t n) := by
  have ho := w.1
  by_cases f9 : f = 9
  · subst f9
    have hl2 := hl
    unfold legal at hl2
    rw [if_pos rfl] at hl2
    simp only [Bool.and_eq_true, decide_eq_true_eq, Bool.or_eq_true] at hl2
    unfold playP
    rw [if_pos rfl]
    by_cases q : (P.1 9).isEmpty = true
    · rw [if_pos q]
      have e9 := List.isEmpty_iff.mp q
      have htu : P.2.2.2 < R 7 := by
        rcases hl2.2 with z | z
        · rw [q] at z; cases z
        · exact z.2
      have e : ∀ p, p ≠ 9 → p ≠ 7 → (turnP P).1 p = P.1 p := by
        intro p h9 h7; unfold turnP; dsimp only; rw [if_neg h9, if_neg h7]
      have e9' : (turnP P).1 9 = (P.1 7).reverse := by unfold turnP; dsimp only; rw [if_pos rfl, e9, List.append_nil]
      have e7' : (turnP P).1 7 = [] := rfl
      refine ⟨turnP_ok ho, ?_, ?_, ?_, ?_, w.2.2.2.2.2.1, w.2.2.2.2.2.2.1, ?_, ?_⟩
      · intro p hp hp2; rw [e p (by omega) (by omega)]; exact w.2.1 p hp hp2
      · intro k hk; rw [e _ (by omega) (by omega)]; exact w.2.2.1 k hk
      · intro p c hc
        by_cases p9 : p = 9
        · subst p9; rw [e9', List.mem_reverse] at hc; exact w.2.2.2.1 7 c hc
        · by_cases p7 : p = 7
          · subst p7; rw [e7'] at hc; cases hc
          · rw [e p p9 p7] at hc; exact w.2.2.2.1 p c hc
      · intro c hc hc2
        obtain ⟨p, hp⟩ := w.2.2.2.2.1 c hc hc2
        by_cases p9 : p = 9
        · subst p9; rw [e9] at hp; cases hp
        · by_cases p7 : p = 7
          · subst p7; exact ⟨9, by rw [e9', List.mem_reverse]; exact hp⟩
          · exact ⟨p, by rw [e p p9 p7]; exact hp⟩
      · rw [e9', e7', List.length_reverse]
        have := w.2.2.2.2.2.2.2.1
        simp only [List.length_nil]; omega
      · show P.2.2.2 + 1 ≤ R 7; omega
    · rw [if_neg q]
      have hlen : 1 ≤ (P.1 9).length := by
        cases e : P.1 9 with
        | nil => rw [e] at q; exact absurd rfl q
        | cons => simp
      have e : ∀ p, p ≠ 9 → p ≠ 7 → (carryP P 9 7 1).1 p = P.1 p := by
        intro p h9 h7; unfold carryP; dsimp only; rw [if_neg h9, if_neg (fun z => h7 z.1)]
      have e9' : (carryP P 9 7 1).1 9 = (P.1 9).drop 1 := by simp [carryP]
      have e7' : (carryP P 9 7 1).1 7 = (P.1 9).take 1 ++ P.1 7 := by simp [carryP]
      refine ⟨carryP_ok ho (by omega) (by omega) hlen (by rw [ho.2.2.2.2.2 9 (by omega)]; omega), ?_, ?_, ?_, ?_, w.2.2.2.2.2.1, w.2.2.2.2.2.2.1, ?_, w.2.2.2.2.2.2.2.2⟩
      · intro p hp hp2; rw [e p (by omega) (by omega)]; exact w.2.1 p hp hp2
      · intro k hk; rw [e _ (by omega) (by omega)]; exact w.2.2.1 k hk
      · intro p c hc
        by_cases p9 : p = 9
        · subst p9; rw [e9'] at hc; exact w.2.2.2.1 9 c (List.mem_of_mem_drop hc)
        · by_cases p7 : p = 7
          · subst p7; rw [e7', List.mem_append] at hc
            rcases hc with z | z
            · exact w.2.2.2.1 9 c (List.mem_of_mem_take z)
            · exact w.2.2.2.1 7 c z
          · rw [e p p9 p7] at hc; exact w.2.2.2.1 p c hc
      · intro c hc hc2
        obtain ⟨p, hp⟩ := w.2.2.2.2.1 c hc hc2
        by_cases p9 : p = 9
        · subst p9
          rw [← List.take_append_drop 1 (P.1 9), List.mem_append] at hp
          rcases hp with z | z
          · exact ⟨7, by rw [e7', List.mem_append]; exact Or.inl z⟩
          · exact ⟨9, by rw [e9']; exact z⟩
        · by_cases p7 : p = 7
          · subst p7; exact ⟨7, by rw [e7', List.mem_append]; exact Or.inr hp⟩
          · exact ⟨p, by rw [e p p9 p7]; exact hp⟩
      · rw [e9', e7', List.length_append, List.length_take, List.length_drop]
        have := w.2.2.2.2.2.2.2.1
        omega
  · obtain ⟨hf, hf8, hft, ht2, hlen, hh, hne⟩ := legal_facts ho hn h1 f9 hl
    have ht8 : t = 8 → n = 1 := fun z => by omega
    unfold playP
    rw [if_neg f9]
    have ef : (carryP P f t n).1 f = (P.1 f).drop n := by simp [carryP]
    have et : t ≠ 8 → (carryP P f t n).1 t = (P.1 f).take n ++ P.1 t := by
      intro q; unfold carryP; dsimp only; rw [if_neg (fun e => hft e.symm), if_pos ⟨rfl, q⟩]
    have eo : ∀ p, p ≠ f → (p ≠ t ∨ t = 8) → (carryP P f t n).1 p = P.1 p := by
      intro p q1 q2; unfold carryP; dsimp only; rw [if_neg q1, if_neg (fun e => by omega)]
    have hok := carryP_ok ho hft (by omega) hlen hh
    cases ec : P.1 f with
    | nil => exact absurd ec hne
    | cons c0 l =>
    have hc0 : c0 ∈ P.1 f := by rw [ec]; simp
    have hw0 := w.2.2.2.1 f c0 hc0
    have hl2 := hl
    unfold legal at hl2
    rw [if_neg f9, ec] at hl2
    dsimp only at hl2
    have hup : t = 8 → c0 % R 1 = P.2.2.1 (c0 / R 1) := by
      intro z; rw [if_pos z] at hl2; simpa using hl2
    have hm := mod_lt1 hR c0
    refine ⟨hok, ?_, ?_, ?_, ?_, ?_, ?_, ?_, w.2.2.2.2.2.2.2.2⟩
    · intro p hp hp2
      by_cases pf : p = f
      · subst pf; exact absurd (w.2.1 p hp hp2) hne
      · by_cases pt : p = t
        · subst pt
          rw [if_neg (by omega), if_neg (by omega), if_pos hp] at hl2
          simp only [Bool.and_eq_true, decide_eq_true_eq] at hl2
          omega
        · show (carryP P f t n).1 p = []
          rw [eo p pf (Or.inl pt)]; exact w.2.1 p hp hp2
    · intro k hk
      have hwk := w.2.2.1 k hk
      show ((carryP P f t n).1 (5 + k)).length ≤ 1 ∧ (R 3 ≤ k → (carryP P f t n).1 (5 + k) = [])
      by_cases pf : 5 + k = f
      · rw [pf, ef, List.length_drop]
        rw [pf] at hwk
        exact ⟨by omega, fun z => absurd (hwk.2 z) hne⟩
      · by_cases pt : 5 + k = t
        · have n1 : n = 1 := by omega
          rw [if_neg (by omega), if_pos (by omega)] at hl2
          simp only [Bool.and_eq_true, decide_eq_true_eq] at hl2
          rw [pt, et (by omega), List.length_append, List.length_take, List.isEmpty_iff.mp hl2.2.2]
          refine ⟨by simp only [List.length_nil]; omega, fun z => by omega⟩
        · rw [eo _ pf (Or.inl pt)]; exact hwk
    · intro p c hc
      replace hc : c ∈ (carryP P f t n).1 p := hc
      have hold : ∃ q, c ∈ P.1 q ∧ (t = 8 → c ≠ c0) := by
        by_cases pf : p = f
        · subst pf
          rw [ef] at hc
          refine ⟨p, List.mem_of_mem_drop hc, fun z e => ?_⟩
          have n1 := ht8 z
          subst n1; subst e
          rw [ec] at hc
          have := ho.2.1 p
          rw [ec, List.nodup_cons] at this
          exact this.1 (by simpa using hc)
        · by_cases pt : p = t ∧ t ≠ 8
          · rw [pt.1, et pt.2, List.mem_append] at hc
            rcases hc with z | z
            · exact ⟨f, List.mem_of_mem_take z, fun y => absurd y pt.2⟩
            · exact ⟨t, z, fun y => absurd y pt.2⟩
          · rw [eo p pf (by omega)] at hc
            exact ⟨p, hc, fun z e => pf (ho.2.2.1 p f c hc (e ▸ hc0))⟩
      obtain ⟨q, hq, hne2⟩ := hold
      have hwq := w.2.2.2.1 q c hq
      refine ⟨hwq.1, ?_⟩
      show (if t = 8 then fun s => if s = (c0 :: l).headD 0 / R 1 then P.2.2.1 s + 1 else P.2.2.1 s else P.2.2.1) (c / R 1) ≤ c % R 1
      by_cases t8 : t = 8
      · rw [if_pos t8]
        show (if c / R 1 = c0 / R 1 then P.2.2.1 (c / R 1) + 1 else P.2.2.1 (c / R 1)) ≤ c % R 1
        by_cases e : c / R 1 = c0 / R 1
        · rw [if_pos e]
          have h2 := hup t8
          rw [← e] at h2
          have : c % R 1 ≠ c0 % R 1 := fun z => hne2 t8 (div_unique e z)
          omega
        · rw [if_neg e]; exact hwq.2
      · rw [if_neg t8]; exact hwq.2
    · intro c hc hc2
      have hc2 : (if t = 8 then fun s => if s = (c0 :: l).headD 0 / R 1 then P.2.2.1 s + 1 else P.2.2.1 s else P.2.2.1) (c / R 1) ≤ c % R 1 := hc2
      have hle : P.2.2.1 (c / R 1) ≤ c % R 1 := by
        by_cases t8 : t = 8
        · rw [if_pos t8] at hc2
          have hc2 : (if c / R 1 = c0 / R 1 then P.2.2.1 (c / R 1) + 1 else P.2.2.1 (c / R 1)) ≤ c % R 1 := hc2
          split at hc2 <;> omega
        · rw [if_neg t8] at hc2; exact hc2
      obtain ⟨p, hp⟩ := w.2.2.2.2.1 c hc hle
      show ∃ p, c ∈ (carryP P f t n).1 p
      by_cases pf : p = f
      · subst pf
        have hp2 := hp
        rw [← List.take_append_drop n (P.1 p), List.mem_append] at hp
        rcases hp with z | z
        · by_cases t8 : t = 8
          · have n1 := ht8 t8
            subst n1
            rw [ec] at z
            have e : c = c0 := by simpa using z
            subst e
            rw [if_pos t8] at hc2
            have hc2 : (if c / R 1 = c / R 1 then P.2.2.1 (c / R 1) + 1 else P.2.2.1 (c / R 1)) ≤ c % R 1 := hc2
            rw [if_pos rfl, hup t8] at hc2
            omega
          · exact ⟨t, by rw [et t8, List.mem_append]; exact Or.inl z⟩
        · exact ⟨p, by rw [ef]; exact z⟩
      · by_cases pt : p = t ∧ t ≠ 8
        · exact ⟨t, by rw [et pt.2, List.mem_append]; exact Or.inr (pt.1 ▸ hp)⟩
        · exact ⟨p, by rw [eo p pf (by omega)]; exact hp⟩
    · intro s
      show (if t = 8 then fun s => if s = (c0 :: l).headD 0 / R 1 then P.2.2.1 s + 1 else P.2.2.1 s else P.2.2.1) s ≤ R 1
      by_cases t8 : t = 8
      · rw [if_pos t8]
        show (if s = c0 / R 1 then P.2.2.1 s + 1 else P.2.2.1 s) ≤ R 1
        by_cases e : s = c0 / R 1
        · rw [if_pos e, e, ← hup t8]; omega
        · rw [if_neg e]; exact w.2.2.2.2.2.1 s
      · rw [if_neg t8]; exact w.2.2.2.2.2.1 s
    · intro s hs
      show (if t = 8 then fun s => if s = (c0 :: l).headD 0 / R 1 then P.2.2.1 s + 1 else P.2.2.1 s else P.2.2.1) s = 0
      by_cases t8 : t = 8
      · rw [if_pos t8]
        show (if s = c0 / R 1 then P.2.2.1 s + 1 else P.2.2.1 s) = 0
        have := div_lt_R hw0.1
        rw [if_neg (by omega)]; exact w.2.2.2.2.2.2.1 s hs
      · rw [if_neg t8]; exact w.2.2.2.2.2.2.1 s hs
    · show ((carryP P f t n).1 7).length + ((carryP P f t n).1 9).length ≤ R 6
      have h79 := w.2.2.2.2.2.2.2.1
      rw [eo 9 (fun e => f9 e.symm) (by omega)]
      by_cases f7 : f = 7
      · subst f7; rw [ef, List.length_drop]; omega
      · rw [eo 7 (fun e => f7 e.symm) (by omega)]; exact h79
