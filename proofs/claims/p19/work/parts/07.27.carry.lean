/-! ===== the class's table: what a move does ===== -/
/-- n cards go from f to t (t = 8: they are up); a hidden card that comes to be the last one is turned -/
def carryP (P : Pos) (f t n : Nat) : Pos :=
  (fun p => if p = f then (P.1 f).drop n else if p = t ∧ t ≠ 8 then (P.1 f).take n ++ P.1 t else P.1 p,
   fun p => if p = f then (if 0 < (P.1 f).length - n ∧ (P.1 f).length - n ≤ P.2.1 f then (P.1 f).length - n - 1 else P.2.1 f) else P.2.1 p,
   P.2.2.1, P.2.2.2)
theorem carryP_ok {P : Pos} (ho : PosOk P) {f t n : Nat} (hft : f ≠ t) (ht : t < 10) (hn : n ≤ (P.1 f).length) (hh : P.2.1 f + n ≤ (P.1 f).length) : PosOk (carryP P f t n) := by
  have mem : ∀ p c, c ∈ (carryP P f t n).1 p → (p = f ∧ c ∈ (P.1 f).drop n) ∨ (p = t ∧ t ≠ 8 ∧ c ∈ (P.1 f).take n) ∨ (p ≠ f ∧ c ∈ P.1 p) := by
    intro p c hc
    simp only [carryP] at hc
    by_cases q : p = f
    · rw [if_pos q] at hc; exact Or.inl ⟨q, hc⟩
    · rw [if_neg q] at hc
      by_cases q2 : p = t ∧ t ≠ 8
      · rw [if_pos q2, List.mem_append] at hc
        rcases hc with hc | hc
        · exact Or.inr (Or.inl ⟨q2.1, q2.2, hc⟩)
        · exact Or.inr (Or.inr ⟨q, by rw [q2.1]; exact hc⟩)
      · rw [if_neg q2] at hc; exact Or.inr (Or.inr ⟨q, hc⟩)
  have hdis : ∀ c, c ∈ (P.1 f).take n → c ∈ (P.1 f).drop n → False := by
    intro c h1 h2
    have hnd := ho.2.1 f
    rw [← List.take_append_drop n (P.1 f), List.nodup_append] at hnd
    exact hnd.2.2 c h1 c h2 rfl
  refine ⟨?_, ?_, ?_, ?_, ?_, ?_⟩
  · intro p c hc
    rcases mem p c hc with ⟨-, q⟩ | ⟨-, -, q⟩ | ⟨-, q⟩
    · exact ho.1 f c (List.mem_of_mem_drop q)
    · exact ho.1 f c (List.mem_of_mem_take q)
    · exact ho.1 p c q
  · intro p
    simp only [carryP]
    by_cases q : p = f
    · rw [if_pos q]; exact (ho.2.1 f).sublist (List.drop_sublist _ _)
    · rw [if_neg q]
      by_cases q2 : p = t ∧ t ≠ 8
      · rw [if_pos q2, List.nodup_append]
        refine ⟨(ho.2.1 f).sublist (List.take_sublist _ _), ho.2.1 t, ?_⟩
        intro a ha b hb e
        subst e
        exact hft (ho.2.2.1 f t a (List.mem_of_mem_take ha) hb)
      · rw [if_neg q2]; exact ho.2.1 p
  · intro p q c hp hq
    rcases mem p c hp with ⟨p1, p2⟩ | ⟨p1, -, p2⟩ | ⟨p1, p2⟩ <;> rcases mem q c hq with ⟨q1, q2⟩ | ⟨q1, -, q2⟩ | ⟨q1, q2⟩
    · omega
    · exact absurd (hdis c q2 p2) id
    · exact absurd (ho.2.2.1 q f c q2 (List.mem_of_mem_drop p2)) q1
    · exact absurd (hdis c p2 q2) id
    · omega
    · exact absurd (ho.2.2.1 q f c q2 (List.mem_of_mem_take p2)) q1
    · exact absurd (ho.2.2.1 p f c p2 (List.mem_of_mem_drop q2)) p1
    · exact absurd (ho.2.2.1 p f c p2 (List.mem_of_mem_take q2)) p1
    · exact ho.2.2.1 p q c p2 q2
  · intro p hp
    simp only [carryP]
    by_cases q : p = f
    · rw [if_pos q, ho.2.2.2.1 f (by rw [← q]; exact hp)]; simp
    · rw [if_neg q, if_neg (by rintro ⟨q1, q2⟩; rcases hp with h | h <;> omega)]
      exact ho.2.2.2.1 p hp
  · intro p
    simp only [carryP]
    by_cases q : p = f
    · rw [if_pos q, if_pos q, List.length_drop]
      split <;> omega
    · rw [if_neg q, if_neg q]
      by_cases q2 : p = t ∧ t ≠ 8
      · rw [if_pos q2, List.length_append]
        have := ho.2.2.2.2.1 p
        rw [q2.1] at this ⊢; omega
      · rw [if_neg q2]; exact ho.2.2.2.2.1 p
  · intro p hp
    simp only [carryP]
    have h1 := ho.2.2.2.2.2 p hp
    by_cases q : p = f
    · subst q; rw [if_pos rfl, h1, if_neg (by omega)]
    · rw [if_neg q]; exact h1
theorem s_floorOf {p : Nat} (h : p < 10) : F_X4_floorOf (nI p) = some (nI (floorN p)) := by
  unfold F_X4_floorOf floorN
  by_cases h7 : p = 7
  · subst h7; rfl
  by_cases h8 : p = 8
  · subst h8; rfl
  by_cases h9 : p = 9
  · subst h9; rfl
  by_cases h5 : p < 5
  · simp (disch := omega) only [nI_ltI, nI_leI, nI_eq, nI_clamp, nI_add, pk_mul, pk_sub, pk_div, pk_rem, sdm, rdA_n, wrA_n, wrJ_n, wr1_n, bnd_s, nz_n, zb0, zb1, zb_bi, cal1_s, cal2_s, cal3_s, cal4_s, cal5_s, cal6_s, nI_negone, negone_nI, negone_lt0, negone_le, bi_eq0, bi_eq1, if_true, if_false, eq_self, Nat.lt_irrefl, Nat.le_refl, h7, h8, h9, show ¬ 5 ≤ p by omega, h5]
  · simp (disch := omega) only [nI_ltI, nI_leI, nI_eq, nI_clamp, nI_add, pk_mul, pk_sub, pk_div, pk_rem, sdm, rdA_n, wrA_n, wrJ_n, wr1_n, bnd_s, nz_n, zb0, zb1, zb_bi, cal1_s, cal2_s, cal3_s, cal4_s, cal5_s, cal6_s, nI_negone, negone_nI, negone_lt0, negone_le, bi_eq0, bi_eq1, if_true, if_false, eq_self, Nat.lt_irrefl, Nat.le_refl, h7, h8, h9, show 5 ≤ p by omega, h5, show p < 7 by omega]
/-- of a card, what it lies on, behind a move -/
theorem onN_carry {P : Pos} (ho : PosOk P) {f t n : Nat} (hf : f < 10) (ht : t < 10) (hft : f ≠ t) (hn1 : 1 ≤ n) (hn : n ≤ (P.1 f).length) (hh : P.2.1 f + n ≤ (P.1 f).length) (h8 : t = 8 → n = 1) {b : Nat} (hb : (P.1 f)[n - 1]? = some b) (c : Nat) :
    onN (carryP P f t n) c = if c = b then ((P.1 t).headD (floorN t)) else onN P c := by
  have ho' := carryP_ok ho hft ht hn hh
  have ef : (carryP P f t n).1 f = (P.1 f).drop n := by simp [carryP]
  have et : t ≠ 8 → (carryP P f t n).1 t = (P.1 f).take n ++ P.1 t := by
    intro q; simp only [carryP]; rw [if_neg (fun e => hft e.symm), if_pos ⟨trivial, q⟩]
  have eo : ∀ p, p ≠ f → p ≠ t → (carryP P f t n).1 p = P.1 p := by
    intro p q1 q2; simp only [carryP]; rw [if_neg q1, if_neg (fun e => q2 e.1)]
  have bm : b ∈ P.1 f := List.mem_of_getElem? hb
  have lt_of : ∀ {l : List Nat} {k x : Nat}, l[k]? = some x → k < l.length := fun e => (List.getElem?_eq_some_iff.mp e).1
  by_cases cb : c = b
  · subst cb
    rw [if_pos rfl]
    by_cases q : t = 8
    · subst q
      have hn1' := h8 rfl
      subst hn1'
      rw [ho.2.2.2.1 8 (Or.inr rfl)]
      apply onN_out
      intro p hp hc
      by_cases pf : p = f
      · subst pf
        rw [ef] at hc
        obtain ⟨k, hk, e2⟩ := List.getElem_of_mem hc
        have e3 : (P.1 p)[1 + k]? = some c := by rw [← List.getElem?_drop, List.getElem?_eq_getElem hk, e2]
        have := (List.getElem?_inj (lt_of e3) (ho.2.1 p)).mp (e3.trans hb.symm)
        omega
      · by_cases p8 : p = 8
        · subst p8
          simp only [carryP] at hc
          rw [if_neg pf, if_neg (fun e => e.2 rfl), ho.2.2.2.1 8 (Or.inr rfl)] at hc
          cases hc
        · rw [eo p pf p8] at hc
          exact pf (ho.2.2.1 p f c hc bm)
    · have e3 : ((carryP P f t n).1 t)[n - 1]? = some c := by
        rw [et q, List.getElem?_append_left (by rw [List.length_take]; omega), List.getElem?_take_of_lt (by omega)]; exact hb
      rw [onN_in ho' ht (n - 1) e3, et q, show n - 1 + 1 = n by omega, List.getElem?_append_right (by rw [List.length_take]; omega), List.length_take, show n - min n (P.1 f).length = 0 by omega]
      cases P.1 t <;> rfl
  · rw [if_neg cb]
    by_cases hc : ∃ p, c ∈ P.1 p
    · obtain ⟨p, hcp⟩ := hc
      obtain ⟨hp, p8⟩ := ho.place hcp
      obtain ⟨k, hk, e2⟩ := List.getElem_of_mem hcp
      have hk2 : (P.1 p)[k]? = some c := by rw [List.getElem?_eq_getElem hk, e2]
      by_cases pf : p = f
      · subst pf
        have hkn : k ≠ n - 1 := by
          intro e; subst e; rw [hk2] at hb; exact cb (Option.some.inj hb)
        by_cases kn : k < n - 1
        · have t8 : t ≠ 8 := fun e => by have := h8 e; omega
          have e3 : ((carryP P p t n).1 t)[k]? = some c := by
            rw [et t8, List.getElem?_append_left (by rw [List.length_take]; omega), List.getElem?_take_of_lt (by omega)]; exact hk2
          rw [onN_in ho' ht k e3, onN_in ho hp k hk2, et t8, List.getElem?_append_left (by rw [List.length_take]; omega), List.getElem?_take_of_lt (by omega)]
          have hlt : k + 1 < (P.1 p).length := by omega
          rw [List.getElem?_eq_getElem hlt]
        · have e3 : ((carryP P p t n).1 p)[k - n]? = some c := by
            rw [ef, List.getElem?_drop, show n + (k - n) = k by omega]; exact hk2
          rw [onN_in ho' hp (k - n) e3, onN_in ho hp k hk2, ef, List.getElem?_drop, show n + (k - n + 1) = k + 1 by omega]
      · by_cases pt : p = t
        · subst pt
          have e3 : ((carryP P f p n).1 p)[n + k]? = some c := by
            rw [et p8, List.getElem?_append_right (by rw [List.length_take]; omega), List.length_take, show n + k - min n (P.1 f).length = k by omega]; exact hk2
          rw [onN_in ho' hp (n + k) e3, onN_in ho hp k hk2, et p8, List.getElem?_append_right (by rw [List.length_take]; omega), List.length_take, show n + k + 1 - min n (P.1 f).length = k + 1 by omega]
        · have e3 : ((carryP P f t n).1 p)[k]? = some c := by rw [eo p pf pt]; exact hk2
          rw [onN_in ho' hp k e3, onN_in ho hp k hk2, eo p pf pt]
    · have hc : ∀ p, c ∉ P.1 p := fun p h => hc ⟨p, h⟩
      rw [(onN_20 ho).mpr hc]
      apply onN_out
      intro p hp hcp
      by_cases pf : p = f
      · subst pf; rw [ef] at hcp; exact hc p (List.mem_of_mem_drop hcp)
      · by_cases pt : p = t
        · by_cases q : t = 8
          · subst pt; subst q
            simp only [carryP] at hcp
            rw [if_neg pf, if_neg (fun e => e.2 rfl)] at hcp
            exact hc 8 hcp
          · rw [pt, et q, List.mem_append] at hcp
            rcases hcp with h | h
            · exact hc f (List.mem_of_mem_take h)
            · exact hc t h
        · rw [eo p pf pt] at hcp; exact hc p hcp
