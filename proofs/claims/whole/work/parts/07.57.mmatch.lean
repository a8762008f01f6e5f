/-! ===== alike by the cards below: alike by places ===== -/
theorem pkT_inj {l m : List Nat} (hl : ∀ c, c ∈ l → c < 16) (hm : ∀ c, c ∈ m → c < 16) (hn : l.length = m.length) (h : pkT l = pkT m) : l = m := by
  apply List.ext_getElem hn
  intro i h1 h2
  have a := pkT_at hl (i := l.length - 1 - i) (by omega)
  have b := pkT_at hm (i := l.length - 1 - i) (by omega)
  rw [show l.length - 1 - (l.length - 1 - i) = i by omega] at a
  rw [show m.length - 1 - (l.length - 1 - i) = i by omega] at b
  rw [List.getD_eq_getElem?_getD, List.getElem?_eq_getElem h1] at a
  rw [List.getD_eq_getElem?_getD, List.getElem?_eq_getElem h2] at b
  rw [h, b] at a
  exact a.symm
def Mt (P Q : Pos) : Prop := (∀ p, p < 5 → P.1 p ≠ [] → ∃ q, q < 5 ∧ Q.1 q = P.1 p ∧ Q.2.1 q = P.2.1 p) ∧ (∀ c, (c ∈ P.1 5 ∨ c ∈ P.1 6) → (c ∈ Q.1 5 ∨ c ∈ Q.1 6)) ∧ Q.1 7 = P.1 7 ∧ Q.1 9 = P.1 9
theorem cell_one {P : Pos} (h : KOk P) {p c : Nat} (hp : p = 5 ∨ p = 6) (hc : c ∈ P.1 p) : P.1 p = [c] := by
  have hl : (P.1 p).length ≤ 1 := by
    rcases hp with z | z
    · rw [z]; exact h.2.1 0 (by omega)
    · rw [z]; exact h.2.1 1 (by omega)
  cases e : P.1 p with
  | nil => rw [e] at hc; cases hc
  | cons d r =>
    rw [e] at hl hc
    simp only [List.length_cons] at hl
    have : r = [] := List.length_eq_zero_iff.mp (by omega)
    subst this
    rw [List.mem_singleton] at hc
    rw [hc]
theorem Mt_on {P Q : Pos} (hP : KOk P) (hQ : KOk Q) (h : Mt P Q) {p c : Nat} (hc : c ∈ P.1 p) : onN Q c = onN P c ∧ hidB Q c = hidB P c := by
  obtain ⟨hp, h8⟩ := hP.1.place hc
  obtain ⟨k, hk, e⟩ := List.getElem_of_mem hc
  have hk2 : (P.1 p)[k]? = some c := by rw [List.getElem?_eq_getElem hk, e]
  by_cases p5 : p < 5
  · obtain ⟨q, hq, e1, e2⟩ := h.1 p p5 (fun y => by rw [y] at hc; cases hc)
    have hk3 : (Q.1 q)[k]? = some c := by rw [e1]; exact hk2
    refine ⟨?_, ?_⟩
    · rw [onN_in hP.1 hp k hk2, onN_in hQ.1 (by omega) k hk3, e1]
      have f1 : floorN p = 16 := by unfold floorN; rw [if_pos p5]
      have f2 : floorN q = 16 := by unfold floorN; rw [if_pos hq]
      rw [f1, f2]
    · rw [hidB_at hP.1 p5 hk2, hidB_at hQ.1 hq hk3, e1, e2]
  · by_cases p56 : p = 5 ∨ p = 6
    · obtain ⟨q, hq, hcq⟩ : ∃ q, (q = 5 ∨ q = 6) ∧ c ∈ Q.1 q := by
        have : c ∈ P.1 5 ∨ c ∈ P.1 6 := by
          rcases p56 with z | z
          · rw [z] at hc; exact Or.inl hc
          · rw [z] at hc; exact Or.inr hc
        rcases h.2.1 c this with y | y
        · exact ⟨5, Or.inl rfl, y⟩
        · exact ⟨6, Or.inr rfl, y⟩
      have o1 := cell_one hP p56 hc
      have o2 := cell_one hQ hq hcq
      refine ⟨?_, by rw [hidB_off hP.1 (by omega) hc, hidB_off hQ.1 (by omega) hcq]⟩
      rw [onN_in hP.1 hp 0 (by rw [o1]; rfl), onN_in hQ.1 (p := q) (by omega) 0 (by rw [o2]; rfl), o1, o2]
      have f1 : floorN p = 17 := by unfold floorN; rw [if_neg (by omega), if_pos (by omega)]
      have f2 : floorN q = 17 := by unfold floorN; rw [if_neg (by omega), if_pos (by omega)]
      rw [f1, f2]
    · have p79 : p = 7 ∨ p = 9 := by omega
      have e1 : Q.1 p = P.1 p := by
        rcases p79 with z | z
        · rw [z]; exact h.2.2.1
        · rw [z]; exact h.2.2.2
      have hk3 : (Q.1 p)[k]? = some c := by rw [e1]; exact hk2
      have hcq : c ∈ Q.1 p := by rw [e1]; exact hc
      exact ⟨by rw [onN_in hP.1 hp k hk2, onN_in hQ.1 hp k hk3, e1], by rw [hidB_off hP.1 (by omega) hc, hidB_off hQ.1 (by omega) hcq]⟩
theorem hidB_out {P : Pos} {c : Nat} (h : ∀ p, c ∉ P.1 p) : hidB P c = false := by
  unfold hidB
  rw [List.any_eq_false]
  intro q hq hc
  have hq2 : c ∈ (P.1 q).drop ((P.1 q).length - P.2.1 q) := by simpa using hc
  exact h q (List.mem_of_mem_drop hq2)
theorem Mt_all {P Q : Pos} (hP : KOk P) (hQ : KOk Q) (h : Mt P Q) (h' : Mt Q P) (c : Nat) : onN P c = onN Q c ∧ hidB P c = hidB Q c := by
  by_cases q : ∃ p, c ∈ P.1 p
  · obtain ⟨p, hp⟩ := q
    have := Mt_on hP hQ h hp
    exact ⟨this.1.symm, this.2.symm⟩
  · by_cases q2 : ∃ p, c ∈ Q.1 p
    · obtain ⟨p, hp⟩ := q2
      exact Mt_on hQ hP h' hp
    · have a : ∀ p, c ∉ P.1 p := fun p hp => q ⟨p, hp⟩
      have b : ∀ p, c ∉ Q.1 p := fun p hp => q2 ⟨p, hp⟩
      exact ⟨by rw [(onN_20 hP.1).mpr a, (onN_20 hQ.1).mpr b], by rw [hidB_out a, hidB_out b]⟩
/-- what lies in P from a card down lies in Q so too -/
theorem on_chain {P Q : Pos} (hP : PosOk P) (hQ : PosOk Q) (h : ∀ c, c < 16 → onN P c = onN Q c) {p : Nat} (hp : p < 10) (h8 : p ≠ 8) : ∀ (s v : List Nat), s ≠ [] → P.1 p = v ++ s → ∃ q u, q < 10 ∧ floorN q = floorN p ∧ Q.1 q = u ++ s
  | [], _, h1, _ => absurd rfl h1
  | [b], v, _, e => by
    have hk : (P.1 p)[v.length]? = some b := by rw [e]; simp
    have hk1 : (P.1 p)[v.length + 1]? = none := by rw [e]; simp
    have hb16 := hP.1 p b (List.mem_of_getElem? hk)
    have o1 := onN_in hP hp _ hk
    rw [hk1] at o1
    have o2 : onN Q b = floorN p := by rw [← h b hb16]; exact o1
    have hn : ¬ ∀ q, b ∉ Q.1 q := fun y => by
      rw [(onN_20 hQ).mpr y] at o2; exact floorN_ne h8 o2.symm
    simp only [Classical.not_forall, Classical.not_not] at hn
    obtain ⟨q, hq⟩ := hn
    obtain ⟨hq10, -⟩ := hQ.place hq
    obtain ⟨k, hkq, e2⟩ := List.getElem_of_mem hq
    have hk2 : (Q.1 q)[k]? = some b := by rw [List.getElem?_eq_getElem hkq, e2]
    have o3 := onN_in hQ hq10 k hk2
    cases hd : (Q.1 q)[k + 1]? with
    | some d =>
      rw [hd, o2] at o3
      have := hQ.1 q d (List.mem_of_getElem? hd)
      have := (floorN_ge p).1
      dsimp only at o3; omega
    | none =>
      rw [hd, o2] at o3
      rw [List.getElem?_eq_none_iff] at hd
      refine ⟨q, (Q.1 q).take k, hq10, o3.symm, ?_⟩
      have e3 : (Q.1 q).drop k = [b] := by
        rw [List.drop_eq_getElem_cons hkq, e2, List.drop_eq_nil_of_le hd]
      rw [← e3, List.take_append_drop]
  | c :: d :: t, v, _, e => by
    obtain ⟨q, u, hq, hf, eq⟩ := on_chain hP hQ h hp h8 (d :: t) (v ++ [c]) (by simp) (by rw [e]; simp)
    have hk : (P.1 p)[v.length]? = some c := by rw [e]; simp
    have hk1 : (P.1 p)[v.length + 1]? = some d := by rw [e, List.getElem?_append_right (by omega)]; simp
    have hc16 := hP.1 p c (List.mem_of_getElem? hk)
    have hd16 := hP.1 p d (List.mem_of_getElem? hk1)
    have o1 := onN_in hP hp _ hk
    rw [hk1] at o1
    have o2 : onN Q c = d := by rw [← h c hc16]; exact o1
    have hn : ¬ ∀ q, c ∉ Q.1 q := fun y => by
      rw [(onN_20 hQ).mpr y] at o2; omega
    simp only [Classical.not_forall, Classical.not_not] at hn
    obtain ⟨q2, hq2⟩ := hn
    obtain ⟨hq10, -⟩ := hQ.place hq2
    obtain ⟨k, hkq, e2⟩ := List.getElem_of_mem hq2
    have hk2 : (Q.1 q2)[k]? = some c := by rw [List.getElem?_eq_getElem hkq, e2]
    have o3 := onN_in hQ hq10 k hk2
    cases hd : (Q.1 q2)[k + 1]? with
    | none =>
      rw [hd, o2] at o3
      have := (floorN_ge q2).1
      dsimp only at o3; omega
    | some d2 =>
      rw [hd, o2] at o3
      dsimp only at o3
      subst o3
      have hdq : (Q.1 q)[u.length]? = some d := by rw [eq]; simp
      have eqq : q2 = q := hQ.2.2.1 q2 q d (List.mem_of_getElem? hd) (List.mem_of_getElem? hdq)
      subst eqq
      have ei := (List.getElem?_inj (List.getElem?_eq_some_iff.mp hd).1 (hQ.2.1 q2)).mp (hd.trans hdq.symm)
      refine ⟨q2, (Q.1 q2).take k, hq, hf, ?_⟩
      have e3 : (Q.1 q2).drop k = c :: d :: t := by
        rw [List.drop_eq_getElem_cons hkq, e2, ei]
        congr 1
        rw [eq]; simp
      rw [← e3, List.take_append_drop]
theorem on_list {P Q : Pos} (hP : PosOk P) (hQ : PosOk Q) (h : ∀ c, c < 16 → onN P c = onN Q c) {p : Nat} (hp : p < 10) (h8 : p ≠ 8) (hne : P.1 p ≠ []) : ∃ q, q < 10 ∧ floorN q = floorN p ∧ Q.1 q = P.1 p := by
  obtain ⟨q, u, hq, hf, e⟩ := on_chain hP hQ h hp h8 (P.1 p) [] hne rfl
  have hneq : Q.1 q ≠ [] := by rw [e]; intro y; rw [List.append_eq_nil_iff] at y; exact hne y.2
  have q8 : q ≠ 8 := fun y => hneq (hQ.2.2.2.1 q (Or.inr y))
  obtain ⟨p2, u2, hp2, hf2, e2⟩ := on_chain hQ hP (fun c hc => (h c hc).symm) hq q8 (Q.1 q) [] hneq rfl
  obtain ⟨c, l, ec⟩ : ∃ c l, P.1 p = c :: l := by
    cases ec : P.1 p with
    | nil => exact absurd ec hne
    | cons c l => exact ⟨c, l, rfl⟩
  have hc : c ∈ P.1 p := by rw [ec]; simp
  have hc2 : c ∈ P.1 p2 := by rw [e2, e]; simp [hc]
  have := hP.2.2.1 p2 p c hc2 hc
  subst this
  have hl := congrArg List.length e2
  rw [e] at hl
  simp only [List.length_append] at hl
  have hu : u = [] := List.length_eq_zero_iff.mp (by omega)
  refine ⟨q, hq, hf, ?_⟩
  rw [e, hu]; rfl
