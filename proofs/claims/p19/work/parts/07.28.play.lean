/-! ===== the class's table: carry, turnOver, play ===== -/
theorem clr_bit {m c : Nat} (hm : m < 65536) (hc : c < 16) : ∃ m', m' < 65536 ∧ nI m &&& ((nI 1 <<< (nI c &&& 31)) ^^^ (-1)) = nI m' ∧ ∀ i, i < 16 → m'.testBit i = (m.testBit i && decide (i ≠ c)) := by
  have h1 : nI 1 <<< (nI c &&& 31) = nI (2 ^ c) := by
    have := pk_shlN (n := 1) (nI c &&& 31) c (by
      have : ∀ c, c < 32 → ((nI c &&& 31).toBitVec.smod 32).toNat = c := by decide
      exact this c (by omega)) (by
        have : 2 ^ c ≤ 2 ^ 15 := Nat.pow_le_pow_right (by omega) (by omega)
        omega)
    rw [Nat.one_mul] at this; exact this
  have h2 : (-1 : Int32) = nI 4294967295 := by decide
  rw [h1, h2, fb_xorI, fa_and]
  refine ⟨m &&& (2 ^ c ^^^ 4294967295), ?_, rfl, ?_⟩
  · exact Nat.lt_of_le_of_lt Nat.and_le_left hm
  · intro i hi
    rw [Nat.testBit_and, Nat.testBit_xor, Nat.testBit_two_pow]
    have h3 : Nat.testBit 4294967295 i = true := by
      have : ∀ i, i < 16 → Nat.testBit 4294967295 i = true := by decide
      exact this i hi
    rw [h3]
    by_cases q : c = i
    · subst q; simp
    · simp [q, show i ≠ c from fun e => q e.symm]
theorem set_bit {m c : Nat} (hm : m < 65536) (hc : c < 16) : ∃ m', m' < 65536 ∧ nI m ||| (nI 1 <<< (nI c &&& 31)) = nI m' ∧ ∀ i, i < 16 → m'.testBit i = (m.testBit i || decide (i = c)) := by
  have h1 : nI 1 <<< (nI c &&& 31) = nI (2 ^ c) := by
    have := pk_shlN (n := 1) (nI c &&& 31) c (by
      have : ∀ c, c < 32 → ((nI c &&& 31).toBitVec.smod 32).toNat = c := by decide
      exact this c (by omega)) (by
        have : 2 ^ c ≤ 2 ^ 15 := Nat.pow_le_pow_right (by omega) (by omega)
        omega)
    rw [Nat.one_mul] at this; exact this
  rw [h1, fa_or]
  have h3 : 2 ^ c < 2 ^ 16 := Nat.pow_lt_pow_right (by omega) hc
  refine ⟨m ||| 2 ^ c, Nat.or_lt_two_pow (n := 16) hm h3, rfl, ?_⟩
  intro i hi
  rw [Nat.testBit_or, Nat.testBit_two_pow]
  congr 1
  simp [eq_comm]
/-- hidden cards, behind a move: as before, but for the card that comes to be the last one -/
theorem hidB_carry {P : Pos} (ho : PosOk P) {f t n : Nat} (hf : f < 10) (ht : t < 10) (hft : f ≠ t) (hn : n ≤ (P.1 f).length) (hh : P.2.1 f + n ≤ (P.1 f).length) (c : Nat) :
    hidB (carryP P f t n) c = (hidB P c && decide ((P.1 f)[n]? ≠ some c)) := by
  have ho' := carryP_ok ho hft ht hn hh
  have ef : (carryP P f t n).1 f = (P.1 f).drop n := by simp [carryP]
  have et : t ≠ 8 → (carryP P f t n).1 t = (P.1 f).take n ++ P.1 t := by
    intro q; unfold carryP; dsimp only; rw [if_neg (fun e => hft e.symm), if_pos ⟨rfl, q⟩]
  have hf2 : (carryP P f t n).2.1 f = if 0 < (P.1 f).length - n ∧ (P.1 f).length - n ≤ P.2.1 f then (P.1 f).length - n - 1 else P.2.1 f := by
    unfold carryP; dsimp only; rw [if_pos rfl]
  have ho2 : ∀ q, q ≠ f → (carryP P f t n).2.1 q = P.2.1 q := by
    intro q h; unfold carryP; dsimp only; rw [if_neg h]
  by_cases hc : ∃ p, p < 5 ∧ c ∈ P.1 p
  · obtain ⟨p, hp, hcp⟩ := hc
    obtain ⟨k, hk, e2⟩ := List.getElem_of_mem hcp
    have hk2 : (P.1 p)[k]? = some c := by rw [List.getElem?_eq_getElem hk, e2]
    rw [hidB_at ho hp hk2]
    by_cases pf : p = f
    · subst pf
      by_cases kn : k < n
      · have h1 : ¬ (P.1 p).length - k ≤ P.2.1 p := by omega
        rw [decide_eq_false h1, Bool.false_and]
        have hct : c ∈ (P.1 p).take n := List.mem_of_getElem? (show ((P.1 p).take n)[k]? = some c by rw [List.getElem?_take_of_lt kn]; exact hk2)
        by_cases t8 : t = 8
        · unfold hidB
          rw [List.any_eq_false]
          intro q hq h
          have hq2 : c ∈ ((carryP P p t n).1 q).drop (((carryP P p t n).1 q).length - (carryP P p t n).2.1 q) := by simpa using h
          have hq3 := List.mem_of_mem_drop hq2
          by_cases qp : q = p
          · subst qp
            rw [ef] at hq3
            have hnd := ho.2.1 q
            rw [← List.take_append_drop n (P.1 q), List.nodup_append] at hnd
            exact hnd.2.2 c hct c hq3 rfl
          · simp only [carryP] at hq3
            rw [if_neg qp, if_neg (fun e => e.2 t8)] at hq3
            exact qp (ho.2.2.1 q p c hq3 hcp)
        · have e3 : ((carryP P p t n).1 t)[k]? = some c := by
            rw [et t8, List.getElem?_append_left (by rw [List.length_take]; omega), List.getElem?_take_of_lt kn]; exact hk2
          by_cases t5 : t < 5
          · rw [hidB_at ho' t5 e3]
            have := ho.2.2.2.2.1 t
            simp only [et t8, ho2 t (fun e => hft e.symm), List.length_append, List.length_take]
            apply decide_eq_false; omega
          · exact hidB_off ho' (by omega) (List.mem_of_getElem? e3)
      · have e3 : ((carryP P p t n).1 p)[k - n]? = some c := by
          rw [ef, List.getElem?_drop, show n + (k - n) = k by omega]; exact hk2
        rw [hidB_at ho' hp e3]
        simp only [ef, hf2, List.length_drop]
        have inj : (P.1 p)[n]? = some c ↔ k = n := by
          constructor
          · intro e; exact ((List.getElem?_inj hk (ho.2.1 p)).mp (hk2.trans e.symm))
          · intro e; subst e; exact hk2
        by_cases q : k = n
        · subst q
          simp only [hk2, ne_eq, not_true, decide_false, Bool.and_false]
          apply decide_eq_false
          split <;> omega
        · have : (P.1 p)[n]? ≠ some c := fun e => q (inj.mp e)
          simp only [this, ne_eq, not_false_eq_true, decide_true, Bool.and_true]
          congr 1
          simp only [eq_iff_iff]
          split <;> omega
    · have : (P.1 f)[n]? ≠ some c := fun e => pf (ho.2.2.1 p f c hcp (List.mem_of_getElem? e))
      simp only [this, ne_eq, not_false_eq_true, decide_true, Bool.and_true]
      by_cases pt : p = t
      · subst pt
        have p8 : p ≠ 8 := by omega
        have e3 : ((carryP P f p n).1 p)[n + k]? = some c := by
          rw [et p8, List.getElem?_append_right (by rw [List.length_take]; omega), List.length_take, show n + k - min n (P.1 f).length = k by omega]; exact hk2
        rw [hidB_at ho' hp e3]
        simp only [et p8, ho2 p pf, List.length_append, List.length_take]
        congr 1; simp only [eq_iff_iff]; omega
      · have e4 : (carryP P f t n).1 p = P.1 p := by
          simp only [carryP]; rw [if_neg pf, if_neg (fun e => pt e.1)]
        have e3 : ((carryP P f t n).1 p)[k]? = some c := by rw [e4]; exact hk2
        rw [hidB_at ho' hp e3]
        simp only [e4, ho2 p pf]
  · have hc : ∀ p, p < 5 → c ∉ P.1 p := fun p hp h => hc ⟨p, hp, h⟩
    have h1 : hidB P c = false := by
      unfold hidB
      rw [List.any_eq_false]
      intro q hq h
      have hq2 : c ∈ (P.1 q).drop ((P.1 q).length - P.2.1 q) := by simpa using h
      exact hc q (by simpa using hq) (List.mem_of_mem_drop hq2)
    rw [h1, Bool.false_and]
    unfold hidB
    rw [List.any_eq_false]
    intro q hq h
    have hq5 : q < 5 := by simpa using hq
    have hq2 : c ∈ ((carryP P f t n).1 q).drop (((carryP P f t n).1 q).length - (carryP P f t n).2.1 q) := by simpa using h
    have hq3 := List.mem_of_mem_drop hq2
    by_cases qf : q = f
    · subst qf; rw [ef] at hq3; exact hc q hq5 (List.mem_of_mem_drop hq3)
    · by_cases qt : q = t ∧ t ≠ 8
      · have e5 : (carryP P f t n).1 q = (P.1 f).take n ++ P.1 t := by simp only [carryP]; rw [if_neg qf, if_pos qt]
        have e6 : (carryP P f t n).2.1 q = P.2.1 q := by simp only [carryP]; rw [if_neg qf]
        rw [e5, e6, List.length_append, List.length_take] at hq2
        have h7 := ho.2.2.2.2.1 t
        rw [qt.1] at hq2
        rw [List.drop_append, List.length_take] at hq2
        have h8 : ((P.1 f).take n).drop (min n (P.1 f).length + (P.1 t).length - P.2.1 t) = [] := List.drop_eq_nil_of_le (by rw [List.length_take]; omega)
        rw [h8, List.nil_append] at hq2
        rw [← qt.1] at hq2
        exact hc q hq5 (List.mem_of_mem_drop hq2)
      · have e5 : (carryP P f t n).1 q = P.1 q := by simp only [carryP]; rw [if_neg qf, if_neg qt]
        rw [e5] at hq3; exact hc q hq5 hq3
