/-! ===== the second reading: play ===== -/
/-- n cards taken from f, all but the first j of them laid on t -/
def stP (R : Nat → Nat) (P : Pos) (f t n j : Nat) : Pos := (fun p => if p = f then (P.1 f).drop n else if p = t ∧ t ≠ 8 then ((P.1 f).take n).drop j ++ P.1 t else P.1 p, (takeP P f n).2.1, (if t = 8 ∧ j = 0 then (fun s => if s = (P.1 f).headD 0 / R 1 then P.2.2.1 s + 1 else P.2.2.1 s) else P.2.2.1), P.2.2.2)
theorem stP_0 {R : Nat → Nat} {P : Pos} {f t n : Nat} (h9 : f ≠ 9) : playP R P f t n = stP R P f t n 0 := by
  unfold playP stP carryP takeP
  rw [if_neg h9, List.drop_zero]
  by_cases t8 : t = 8
  · simp [t8]
  · simp [t8]
theorem stP_n {R : Nat → Nat} {P : Pos} {f t n : Nat} (hn : 1 ≤ n) : stP R P f t n n = takeP P f n := by
  unfold stP takeP
  refine Prod.ext ?_ (Prod.ext rfl (Prod.ext ?_ rfl))
  · funext p
    dsimp only
    by_cases q : p = f
    · rw [if_pos q, if_pos q]
    · rw [if_neg q, if_neg q]
      by_cases q2 : p = t ∧ t ≠ 8
      · rw [if_pos q2, List.drop_eq_nil_of_le (by simp; omega), q2.1]; rfl
      · rw [if_neg q2]
  · dsimp only; rw [if_neg (by omega)]
theorem m_give {I : Nat → Nat → Int32} {L : Nat → Nat → Int64} {R : Nat → Nat} {P : Pos} (hr : RR (I 1) R) (ho : PosOk P) {f t n j : Nat} (ht : t < 9) (hft : f ≠ t) (ht7 : t ≠ 7) (hn : n ≤ (P.1 f).length) (hj : j < n) (hlen : t < 5 → n + (P.1 t).length ≤ 16) (h1 : n = 1 ∨ t < 5) (hup : t = 8 → (P.1 f).headD 0 / R 1 < 4 ∧ P.2.2.1 ((P.1 f).headD 0 / R 1) < 6) (hcell : t = 5 ∨ t = 6 → P.1 t = [])
    (hrow : I 9 j = nI ((P.1 f).getD j 0)) (h : MRep I L (stP R P f t n (j + 1))) (K : (Nat → Nat → Int32) → (Nat → Nat → Int64) → Int32 → Int32 → Option ((Nat → Nat → Int32) × (Nat → Nat → Int64))) :
    ∃ I' L', F_X6_play_s43 K I L (nI t) (nI j) = K I' L' (nI t) (nI j + (-1)) ∧ MRep I' L' (stP R P f t n j) ∧ FrI I I' ∧ FrL L L' ∧ I' 9 = I 9 := by
  have hl := ho.len f
  have hft' : ¬ t = f := fun y => hft y.symm
  have hjl : j < (P.1 f).length := by omega
  obtain ⟨hc16, hcm⟩ := getD_lt ho hjl
  have gp : ∀ p, ¬ (p = t ∧ t ≠ 8) → (stP R P f t n j).1 p = (stP R P f t n (j + 1)).1 p := fun p hp => by
    show (if p = f then _ else if _ then _ else _) = (if p = f then _ else if _ then _ else _)
    rw [if_neg hp, if_neg hp]
  have et : t ≠ 8 → (stP R P f t n j).1 t = (P.1 f).getD j 0 :: (stP R P f t n (j + 1)).1 t := by
    intro h8
    show (if t = f then _ else if _ then _ else _) = _ :: (if t = f then _ else if _ then _ else _)
    rw [if_neg hft', if_neg hft', if_pos (⟨rfl, h8⟩ : t = t ∧ t ≠ 8), if_pos (⟨rfl, h8⟩ : t = t ∧ t ≠ 8)]
    have : ((P.1 f).take n).drop j = (P.1 f).getD j 0 :: ((P.1 f).take n).drop (j + 1) := by
      rw [List.drop_eq_getElem_cons (by rw [List.length_take]; omega), List.getElem_take, List.getD_eq_getElem?_getD, List.getElem?_eq_getElem hjl]; rfl
    rw [this]; rfl
  have el : t ≠ 8 → ((stP R P f t n (j + 1)).1 t).length = n - (j + 1) + (P.1 t).length := by
    intro h8
    show (if t = f then _ else if _ then _ else _ : List Nat).length = _
    rw [if_neg hft', if_pos (⟨rfl, h8⟩ : t = t ∧ t ≠ 8), List.length_append, List.length_drop, List.length_take, Nat.min_eq_left hn]
  have e16 : ∀ d, d ∈ (stP R P f t n (j + 1)).1 t → d < 16 := by
    intro d hd
    have hd2 : d ∈ (if t = f then (P.1 f).drop n else if t = t ∧ t ≠ 8 then ((P.1 f).take n).drop (j + 1) ++ P.1 t else P.1 t) := hd
    rw [if_neg hft'] at hd2
    split at hd2
    · rw [List.mem_append] at hd2
      rcases hd2 with y | y
      · exact ho.1 f d (List.mem_of_mem_take (List.mem_of_mem_drop y))
      · exact ho.1 t d y
    · exact ho.1 t d hd2
  unfold F_X6_play_s43
  rw [if_neg (nI_nlt (by omega) (by omega)), rdA_n _ (by omega) (by omega), hrow]
  rcases Nat.lt_or_ge t 5 with q | q
  · obtain ⟨b1, b2, b3⟩ := h.1 t q
    rw [if_neg (nI_ge q (by omega)), m_push q b1 b2 (by rw [el (by omega)]; have := hlen q; omega) e16 hc16, cal2_s]
    have eup : (stP R P f t n j).2.2.1 = (stP R P f t n (j + 1)).2.2.1 := by
      show (if _ then _ else _) = (if _ then _ else _)
      rw [if_neg (by omega), if_neg (by omega)]
    refine ⟨_, _, rfl, ?_, FrI.st (by omega) (by omega), FrL.stJ, by funext i; rw [st2_s, if_neg (by omega)]⟩
    refine ⟨fun p hp => ?_, fun k hk => ?_, fun s hs => ?_, ⟨?_, fun i hi => ?_⟩, ⟨?_, fun i hi => ?_⟩, ?_⟩
    · by_cases z : p = t
      · subst z
        rw [stJ_s, if_pos ⟨rfl, rfl⟩, st2_s, if_pos ⟨rfl, rfl⟩, st2_s, if_neg (by omega), et (by omega)]
        exact ⟨rfl, rfl, b3⟩
      · rw [stJ_s, if_neg (fun y => z y.2), st2_s, if_neg (fun y => z y.2), st2_s, if_neg (by omega), gp p (fun y => z y.1)]; exact h.1 p hp
    · rw [st2_s, if_neg (by omega), gp _ (by omega)]; exact h.2.1 k hk
    · rw [st2_s, if_neg (by omega), eup]; exact h.2.2.1 s hs
    · rw [st2_s, if_neg (by omega), gp _ (by omega)]; exact h.2.2.2.1.1
    · rw [gp 7 (by omega)] at hi ⊢; rw [st2_s, if_neg (by omega)]; exact h.2.2.2.1.2 i hi
    · rw [st2_s, if_neg (by omega), gp _ (by omega)]; exact h.2.2.2.2.1.1
    · rw [gp 9 (by omega)] at hi ⊢; rw [st2_s, if_neg (by omega)]; exact h.2.2.2.2.1.2 i hi
    · rw [st2_s, if_neg (by omega)]; exact h.2.2.2.2.2
  · have n1 : n = 1 := by omega
    subst n1
    have j0 : j = 0 := by omega
    subst j0
    rw [if_pos (nI_le q (by omega))]
    by_cases t8 : t = 8
    · subst t8
      have ehd : (P.1 f).getD 0 0 = (P.1 f).headD 0 := by cases P.1 f <;> rfl
      rw [ehd] at hc16 ⊢
      obtain ⟨u1, u2⟩ := hup rfl
      have eu : (stP R P f 8 1 (0 + 1)).2.2.1 = P.2.2.1 := by unfold stP; simp
      rw [if_pos rfl, m_suitOf hr hc16, cal1_s, rdA_n _ u1 (by omega), h.2.2.1 _ u1, eu, nI_add, wrA_n _ u1 (by omega)]
      refine ⟨_, _, rfl, ?_, FrI.st (by omega) (by omega), FrL.refl L, by funext i; rw [st2_s, if_neg (by omega)]⟩
      refine ⟨fun p hp => ?_, fun k hk => ?_, fun s hs => ?_, ⟨?_, fun i hi => ?_⟩, ⟨?_, fun i hi => ?_⟩, ?_⟩
      · rw [st2_s, if_neg (by omega), st2_s, if_neg (by omega), gp p (by omega)]; exact h.1 p hp
      · rw [st2_s, if_neg (by omega), gp _ (by omega)]; exact h.2.1 k hk
      · have h3 := h.2.2.1 s hs
        rw [eu] at h3
        show _ = nI ((if 8 = 8 ∧ 0 = 0 then (fun s => if s = (P.1 f).headD 0 / R 1 then P.2.2.1 s + 1 else P.2.2.1 s) else P.2.2.1) s)
        rw [if_pos ⟨rfl, rfl⟩, st2_s]
        by_cases z : s = (P.1 f).headD 0 / R 1
        · rw [if_pos ⟨rfl, z⟩]; rw [if_pos z, z]
        · rw [if_neg (fun y => z y.2)]; rw [if_neg z]; exact h3
      · rw [st2_s, if_neg (by omega), gp _ (by omega)]; exact h.2.2.2.1.1
      · rw [gp 7 (by omega)] at hi ⊢; rw [st2_s, if_neg (by omega)]; exact h.2.2.2.1.2 i hi
      · rw [st2_s, if_neg (by omega), gp _ (by omega)]; exact h.2.2.2.2.1.1
      · rw [gp 9 (by omega)] at hi ⊢; rw [st2_s, if_neg (by omega)]; exact h.2.2.2.2.1.2 i hi
      · rw [st2_s, if_neg (by omega)]; exact h.2.2.2.2.2
    · have eup : (stP R P f t 1 0).2.2.1 = (stP R P f t 1 (0 + 1)).2.2.1 := by
        show (if _ then _ else _) = (if _ then _ else _)
        rw [if_neg (by omega), if_neg (by omega)]
      rw [if_neg (by rw [nI_eq (by omega) (by omega)]; exact t8), pk_sub q, wrA_n _ (by omega) (by omega)]
      refine ⟨_, _, rfl, ?_, FrI.st (by omega) (by omega), FrL.refl L, by funext i; rw [st2_s, if_neg (by omega)]⟩
      refine ⟨fun p hp => ?_, fun k hk => ?_, fun s hs => ?_, ⟨?_, fun i hi => ?_⟩, ⟨?_, fun i hi => ?_⟩, ?_⟩
      · rw [st2_s, if_neg (by omega), st2_s, if_neg (by omega), gp p (by omega)]; exact h.1 p hp
      · by_cases z : k = t - 5
        · rw [st2_s, if_pos ⟨rfl, z⟩, z, show 5 + (t - 5) = t by omega, et t8]; rfl
        · rw [st2_s, if_neg (fun y => z y.2), gp _ (by omega)]; exact h.2.1 k hk
      · rw [st2_s, if_neg (by omega), eup]; exact h.2.2.1 s hs
      · rw [st2_s, if_neg (by omega), gp _ (by omega)]; exact h.2.2.2.1.1
      · rw [gp 7 (by omega)] at hi ⊢; rw [st2_s, if_neg (by omega)]; exact h.2.2.2.1.2 i hi
      · rw [st2_s, if_neg (by omega), gp _ (by omega)]; exact h.2.2.2.2.1.1
      · rw [gp 9 (by omega)] at hi ⊢; rw [st2_s, if_neg (by omega)]; exact h.2.2.2.2.1.2 i hi
      · rw [st2_s, if_neg (by omega)]; exact h.2.2.2.2.2
