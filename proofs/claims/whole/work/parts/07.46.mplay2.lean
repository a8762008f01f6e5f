/-! ===== the second reading: play, whole ===== -/
theorem MRep.st9 {I : Nat → Nat → Int32} {L : Nat → Nat → Int64} {P : Pos} (h : MRep I L P) (k : Nat) (x : Int32) : MRep (st2 I 9 k x) L P := by
  have g : ∀ a j, a ≠ 9 → st2 I 9 k x a j = I a j := fun a j ha => by rw [st2_s, if_neg (fun y => ha y.1)]
  refine ⟨fun p hp => ?_, fun j hj => ?_, fun s hs => ?_, ⟨?_, fun i hi => ?_⟩, ⟨?_, fun i hi => ?_⟩, ?_⟩
  · rw [g 3 p (by omega), g 4 p (by omega)]; exact h.1 p hp
  · rw [g 5 j (by omega)]; exact h.2.1 j hj
  · rw [g 6 s (by omega)]; exact h.2.2.1 s hs
  · rw [g 0 21 (by omega)]; exact h.2.2.2.1.1
  · rw [g 7 i (by omega)]; exact h.2.2.2.1.2 i hi
  · rw [g 0 23 (by omega)]; exact h.2.2.2.2.1.1
  · rw [g 8 i (by omega)]; exact h.2.2.2.2.1.2 i hi
  · rw [g 0 24 (by omega)]; exact h.2.2.2.2.2
theorem m_play_43 {R : Nat → Nat} {P : Pos} (ho : PosOk P) {f t n : Nat} (ht : t < 9) (hft : f ≠ t) (ht7 : t ≠ 7) (hn : n ≤ (P.1 f).length) (hlen : t < 5 → n + (P.1 t).length ≤ 16) (h1 : n = 1 ∨ t < 5) (hup : t = 8 → (P.1 f).headD 0 / R 1 < 4 ∧ P.2.2.1 ((P.1 f).headD 0 / R 1) < 6) (hcell : t = 5 ∨ t = 6 → P.1 t = []) :
    ∀ (j m : Nat) (I : Nat → Nat → Int32) (L : Nat → Nat → Int64), j ≤ n → j < m → RR (I 1) R → (∀ i, i < j → I 9 i = nI ((P.1 f).getD i 0)) → MRep I L (stP R P f t n j) →
    ∃ I' L', F_X6_play_L43 m I L (nI t) (nI j + (-1)) = some (I', L') ∧ MRep I' L' (stP R P f t n 0) ∧ FrI I I' ∧ FrL L L' := by
  intro j
  induction j with
  | zero =>
    intro m I L hj hm hr hrow h
    obtain ⟨m, rfl⟩ : ∃ q, m = q + 1 := ⟨m - 1, by omega⟩
    refine ⟨I, L, ?_, h, FrI.refl I, FrL.refl L⟩
    show F_X6_play_s43 (F_X6_play_L43 m) _ _ _ _ = _
    unfold F_X6_play_s43
    rw [if_pos (show nI 0 + (-1) < nI 0 by decide)]
  | succ j ih =>
    intro m I L hj hm hr hrow h
    obtain ⟨m, rfl⟩ : ∃ q, m = q + 1 := ⟨m - 1, by omega⟩
    rw [pk_m1]
    obtain ⟨I', L', e1, e2, e3, e4, e5⟩ := m_give hr ho ht hft ht7 hn (show j < n by omega) hlen h1 hup hcell (hrow j (by omega)) h (F_X6_play_L43 m)
    obtain ⟨I2, L2, g1, g2, g3, g4⟩ := ih m I' L' (by omega) (by omega) (by rw [e3.1 1 (by omega)]; exact hr) (fun i hi => by rw [e5]; exact hrow i (by omega)) e2
    exact ⟨I2, L2, e1.trans g1, g2, e3.trans g3, e4.trans g4⟩
theorem m_play_14 {P : Pos} (ho : PosOk P) {f t n : Nat} (hf : f < 8) (hn16 : n ≤ 16) (hn : n ≤ (P.1 f).length) (hh : P.2.1 f + n ≤ (P.1 f).length) (hc5 : f = 5 ∨ f = 6 → (P.1 f).length ≤ 1) (h7 : f = 7 → (P.1 7).length ≤ 8) :
    ∀ (j k m : Nat) (I : Nat → Nat → Int32) (L : Nat → Nat → Int64), k + j = n → j < m → (∀ i, i < k → I 9 i = nI ((P.1 f).getD i 0)) → MRep I L (takeP P f k) →
    ∃ I' L', F_X6_play_L14 m I L (nI f) (nI t) (nI n) (nI k) = F_X6_play_b38 I' L' (nI t) (nI n) ∧ MRep I' L' (takeP P f n) ∧ FrI I I' ∧ FrL L L' ∧ ∀ i, i < n → I' 9 i = nI ((P.1 f).getD i 0) := by
  intro j
  induction j with
  | zero =>
    intro k m I L hj hm hrow h
    obtain ⟨m, rfl⟩ : ∃ q, m = q + 1 := ⟨m - 1, by omega⟩
    have : k = n := by omega
    subst this
    refine ⟨I, L, ?_, h, FrI.refl I, FrL.refl L, hrow⟩
    show F_X6_play_s14 (F_X6_play_L14 m) _ _ _ _ _ _ = _
    unfold F_X6_play_s14
    rw [if_pos (nI_le (by omega) (by omega))]
  | succ j ih =>
    intro k m I L hj hm hrow h
    obtain ⟨m, rfl⟩ : ∃ q, m = q + 1 := ⟨m - 1, by omega⟩
    obtain ⟨I', L', e1, e2, e3, e4, e5⟩ := m_take ho hf (show k < (P.1 f).length by omega) (by omega) hc5 h7 h
    show ∃ I2 L2, F_X6_play_s14 (F_X6_play_L14 m) _ _ _ _ _ _ = _ ∧ _
    unfold F_X6_play_s14
    rw [if_neg (nI_ge (by omega) (by omega)), e1, cal3_s, wrA_n _ (by omega) (by omega), nI_add]
    obtain ⟨I2, L2, g1, g2, g3, g4, g5⟩ := ih (k + 1) m (st2 I' 9 k (nI ((P.1 f).getD k 0))) L' (by omega) (by omega) (fun i hi => by
      rw [st2_s]
      by_cases z : i = k
      · rw [if_pos ⟨rfl, z⟩, z]
      · rw [if_neg (fun y => z y.2), e5]; exact hrow i (by omega)) (e2.st9 _ _)
    exact ⟨I2, L2, g1, g2, (e3.trans (FrI.st (by omega) (by omega))).trans g3, e4.trans g4, g5⟩
theorem m_turn_50 {P : Pos} {L : Nat → Nat → Int64} (h8 : (P.1 7).length ≤ 8) (he : P.1 9 = []) :
    ∀ (j k m : Nat) (I : Nat → Nat → Int32), k + j = (P.1 7).length → j < m → (∀ i, i < k → I 8 i = nI ((P.1 7).getD i 0)) → MRep I L P →
    ∃ I', F_X6_turnStock_L50 L m I (nI k) = F_X6_turnStock_b83 L I' ∧ MRep I' L P ∧ FrI I I' ∧ ∀ i, i < (P.1 7).length → I' 8 i = nI ((P.1 7).getD i 0) := by
  intro j
  induction j with
  | zero =>
    intro k m I hj hm hrow h
    obtain ⟨m, rfl⟩ : ∃ q, m = q + 1 := ⟨m - 1, by omega⟩
    refine ⟨I, ?_, h, FrI.refl I, fun i hi => hrow i (by omega)⟩
    show F_X6_turnStock_s50 L (F_X6_turnStock_L50 L m) _ _ = _
    unfold F_X6_turnStock_s50
    rw [h.2.2.2.1.1, if_pos (nI_le (by omega) (by omega))]
  | succ j ih =>
    intro k m I hj hm hrow h
    obtain ⟨m, rfl⟩ : ∃ q, m = q + 1 := ⟨m - 1, by omega⟩
    show ∃ I2, F_X6_turnStock_s50 L (F_X6_turnStock_L50 L m) _ _ = _ ∧ _
    unfold F_X6_turnStock_s50
    have hx := h.2.2.2.1.2 ((P.1 7).length - 1 - k) (by omega)
    rw [show (P.1 7).length - 1 - ((P.1 7).length - 1 - k) = k by omega] at hx
    rw [h.2.2.2.1.1, if_neg (nI_ge (by omega) (by omega)), pk_sub (by omega), pk_sub (by omega), rdA_n _ (by omega) (by omega), hx, wrA_n _ (by omega) (by omega), nI_add]
    have g : ∀ a j, a ≠ 8 → st2 I 8 k (nI ((P.1 7).getD k 0)) a j = I a j := fun a j ha => by rw [st2_s, if_neg (fun y => ha y.1)]
    obtain ⟨I2, g1, g2, g3, g4⟩ := ih (k + 1) m (st2 I 8 k (nI ((P.1 7).getD k 0))) (by omega) (by omega) (fun i hi => by
      rw [st2_s]
      by_cases z : i = k
      · rw [if_pos ⟨rfl, z⟩, z]
      · rw [if_neg (fun y => z y.2)]; exact hrow i (by omega)) (by
        refine ⟨fun p hp => ?_, fun j hj => ?_, fun s hs => ?_, ⟨?_, fun i hi => ?_⟩, ⟨?_, fun i hi => ?_⟩, ?_⟩
        · rw [g 3 p (by omega), g 4 p (by omega)]; exact h.1 p hp
        · rw [g 5 j (by omega)]; exact h.2.1 j hj
        · rw [g 6 s (by omega)]; exact h.2.2.1 s hs
        · rw [g 0 21 (by omega)]; exact h.2.2.2.1.1
        · rw [g 7 i (by omega)]; exact h.2.2.2.1.2 i hi
        · rw [g 0 23 (by omega)]; exact h.2.2.2.2.1.1
        · rw [he] at hi; exact absurd hi (Nat.not_lt_zero i)
        · rw [g 0 24 (by omega)]; exact h.2.2.2.2.2)
    exact ⟨I2, g1, g2, (FrI.st (by omega) (by omega)).trans g3, g4⟩
theorem m_turn {I : Nat → Nat → Int32} {L : Nat → Nat → Int64} {R : Nat → Nat} {P : Pos} (h : MRep I L P) (w : WF R P) (hR : RulesOk R) : ∃ I', F_X6_turnStock L I = some I' ∧ MRep I' L (playP R P 9 7 1) ∧ FrI I I' := by
  unfold RulesOk at hR
  have h79 := w.2.2.2.2.2.2.2.1
  unfold F_X6_turnStock playP
  rw [if_pos rfl, h.2.2.2.2.1.1]
  cases e9 : P.1 9 with
  | nil =>
    rw [if_pos (nI_le (by simp) (by omega)), if_pos (show ([] : List Nat).isEmpty = true from rfl)]
    obtain ⟨I1, g1, g2, g3, g4⟩ := m_turn_50 (L := L) (show (P.1 7).length ≤ 8 by omega) e9 (P.1 7).length 0 FU I (by omega) (FU_gt (by omega)) (fun i hi => absurd hi (Nat.not_lt_zero i)) h
    rw [g1]
    unfold F_X6_turnStock_b83
    rw [bnd_s, bnd_s, bnd_s]
    refine ⟨_, rfl, ?_, ((g3.trans (FrI.st0 (Or.inr (Or.inl rfl)))).trans (FrI.st0 (Or.inl rfl))).trans (FrI.st0 (Or.inr (Or.inr rfl)))⟩
    have g : ∀ a j x y z, a ≠ 0 → st2 (st2 (st2 I1 0 23 x) 0 21 y) 0 24 z a j = I1 a j := fun a j x y z ha => by simp only [st2_s]; rw [if_neg (fun y => ha y.1), if_neg (fun y => ha y.1), if_neg (fun y => ha y.1)]
    have gp : ∀ p, p ≠ 9 → p ≠ 7 → (turnP P).1 p = P.1 p := fun p h1 h2 => by show (if p = 9 then _ else if p = 7 then _ else _) = _; rw [if_neg h1, if_neg h2]
    have e7 : (turnP P).1 7 = [] := rfl
    have e9' : (turnP P).1 9 = (P.1 7).reverse := by show (P.1 7).reverse ++ P.1 9 = _; rw [e9, List.append_nil]
    refine ⟨fun p hp => ?_, fun j hj => ?_, fun s hs => ?_, ⟨?_, fun i hi => ?_⟩, ⟨?_, fun i hi => ?_⟩, ?_⟩
    · rw [g 3 p _ _ _ (by omega), g 4 p _ _ _ (by omega), gp p (by omega) (by omega)]; exact g2.1 p hp
    · rw [g 5 j _ _ _ (by omega), gp _ (by omega) (by omega)]; exact g2.2.1 j hj
    · rw [g 6 s _ _ _ (by omega)]; exact g2.2.2.1 s hs
    · rw [e7]; simp [st2_s]
    · rw [e7] at hi; exact absurd hi (Nat.not_lt_zero i)
    · rw [e9']; simp [st2_s, g2.2.2.2.1.1]
    · rw [e9'] at hi ⊢
      simp only [List.length_reverse] at hi ⊢
      rw [g 8 i _ _ _ (by omega), g4 i hi]
      congr 1
      rw [List.getD_eq_getElem?_getD, List.getD_eq_getElem?_getD, List.getElem?_reverse (by omega), show (P.1 7).length - 1 - ((P.1 7).length - 1 - i) = i by omega]
    · have : st2 (st2 (st2 I1 0 23 (I1 0 21)) 0 21 (nI 0)) 0 24 (st2 (st2 I1 0 23 (I1 0 21)) 0 21 (nI 0) 0 24 + nI 1) 0 24 = I1 0 24 + nI 1 := by simp [st2_s]
      rw [this, g2.2.2.2.2.2, nI_add]; rfl
  | cons c l =>
    rw [e9] at h79
    simp only [List.length_cons] at h79
    rw [if_neg (nI_ge (by simp) (by simp only [List.length_cons]; omega)), if_neg (show ¬ (c :: l).isEmpty = true from fun y => by cases y)]
    have hs := h.2.2.2.2.1.2 l.length (by rw [e9]; simp)
    rw [e9] at hs
    simp only [List.length_cons, Nat.add_sub_cancel, Nat.sub_self, List.getD_cons_zero] at hs
    have e23 : st2 I 0 23 (nI l.length) 0 23 = nI l.length := by simp [st2_s]
    have e21 : st2 I 0 23 (nI l.length) 0 21 = nI (P.1 7).length := by rw [st2_s, if_neg (by omega), h.2.2.2.1.1]
    have e8 : st2 I 0 23 (nI l.length) 8 l.length = nI c := by rw [st2_s, if_neg (by omega), hs]
    rw [bnd_s, List.length_cons, pk_sub (by omega), Nat.add_sub_cancel, e23, rdA_n _ (by omega) (by omega), e8, e21, wrA_n _ (by omega) (by omega), bnd_s]
    have e21b : st2 (st2 I 0 23 (nI l.length)) 7 (P.1 7).length (nI c) 0 21 = nI (P.1 7).length := by rw [st2_s, if_neg (by omega), e21]
    rw [e21b, nI_add]
    refine ⟨_, rfl, ?_, ((FrI.st0 (Or.inr (Or.inl rfl))).trans (FrI.st (by omega) (by omega))).trans (FrI.st0 (Or.inl rfl))⟩
    have gp : ∀ p, p ≠ 9 → p ≠ 7 → (carryP P 9 7 1).1 p = P.1 p := fun p h1 h2 => by show (if p = 9 then _ else if p = 7 ∧ 7 ≠ 8 then _ else _) = _; rw [if_neg h1, if_neg (fun y => h2 y.1)]
    have e7 : (carryP P 9 7 1).1 7 = c :: P.1 7 := by show (P.1 9).take 1 ++ P.1 7 = _; rw [e9]; rfl
    have e9' : (carryP P 9 7 1).1 9 = l := by show (P.1 9).drop 1 = _; rw [e9]; rfl
    have gh : (carryP P 9 7 1).2.1 = P.2.1 := carry_hid5 w.1 (by omega)
    refine ⟨fun p hp => ?_, fun j hj => ?_, fun s hs => ?_, ⟨?_, fun i hi => ?_⟩, ⟨?_, fun i hi => ?_⟩, ?_⟩
    · rw [gp p (by omega) (by omega), gh, st2_s, if_neg (by omega), st2_s, if_neg (by omega), st2_s, if_neg (by omega), st2_s, if_neg (by omega), st2_s, if_neg (by omega), st2_s, if_neg (by omega)]; exact h.1 p hp
    · rw [gp _ (by omega) (by omega), st2_s, if_neg (by omega), st2_s, if_neg (by omega), st2_s, if_neg (by omega)]; exact h.2.1 j hj
    · rw [st2_s, if_neg (by omega), st2_s, if_neg (by omega), st2_s, if_neg (by omega)]; exact h.2.2.1 s hs
    · rw [e7]; simp [st2_s]
    · rw [e7] at hi ⊢
      simp only [List.length_cons] at hi ⊢
      rw [st2_s, if_neg (by omega), st2_s]
      by_cases z : i = (P.1 7).length
      · rw [if_pos ⟨rfl, z⟩, z, Nat.add_sub_cancel, Nat.sub_self]; rfl
      · rw [if_neg (fun y => z y.2), st2_s, if_neg (by omega), h.2.2.2.1.2 i (by omega), show (P.1 7).length + 1 - 1 - i = ((P.1 7).length - 1 - i) + 1 by omega]; rfl
    · rw [e9']; simp [st2_s]
    · rw [e9'] at hi ⊢
      have h5 := h.2.2.2.2.1.2 i (by rw [e9]; simp; omega)
      rw [e9] at h5
      simp only [List.length_cons] at h5
      rw [st2_s, if_neg (by omega), st2_s, if_neg (by omega), st2_s, if_neg (by omega), h5, show l.length + 1 - 1 - i = (l.length - 1 - i) + 1 by omega]; rfl
    · simp [st2_s, h.2.2.2.2.2, carryP]
theorem takeP_0 {P : Pos} (ho : PosOk P) (f : Nat) : takeP P f 0 = P := by
  unfold takeP
  refine Prod.ext ?_ (Prod.ext ?_ rfl)
  · funext p; dsimp only
    by_cases q : p = f
    · rw [if_pos q, List.drop_zero, q]
    · rw [if_neg q]
  · funext p; dsimp only
    by_cases q : p = f
    · have := ho.2.2.2.2.1 f
      rw [if_pos q, if_neg (by omega), q]
    · rw [if_neg q]
theorem m_play {I : Nat → Nat → Int32} {L : Nat → Nat → Int64} {R : Nat → Nat} {P : Pos} (h : MRep I L P) (w : WF R P) (hr : RR (I 1) R) {f t n : Nat} (ht : t < 9) (hn : 1 ≤ n) (hn16 : n ≤ 16) (h1 : n = 1 ∨ (f < 5 ∧ t < 5)) (hl : legal R P f t n = true) :
    ∃ I' L', F_X6_play I L (nI f) (nI t) (nI n) = some (I', L') ∧ MRep I' L' (playP R P f t n) ∧ FrI I I' ∧ FrL L L' := by
  have hR := hr.2
  have hR2 := hr.2
  unfold RulesOk at hR
  have h79 := w.2.2.2.2.2.2.2.1
  unfold F_X6_play
  by_cases f9 : f = 9
  · subst f9
    have n1 : n = 1 := by omega
    subst n1
    have t7 : t = 7 := by
      unfold legal at hl
      rw [if_pos rfl] at hl
      simp only [Bool.and_eq_true, decide_eq_true_eq] at hl
      exact hl.1
    subst t7
    obtain ⟨I', e1, e2, e3⟩ := m_turn h w hR2
    rw [if_pos rfl, e1, cal1_s]
    exact ⟨I', L, rfl, e2, e3, FrL.refl L⟩
  · obtain ⟨a1, a2, a3, a4, a5, a6, a7⟩ := legal_facts w.1 hn h1 f9 hl
    have hok := (carryP_ok w.1 a3 (show t < 10 by omega) a5 a6).len t
    obtain ⟨c, l, e⟩ : ∃ c l, P.1 f = c :: l := by
      cases e : P.1 f with
      | nil => exact absurd e a7
      | cons c l => exact ⟨c, l, rfl⟩
    have hcm : c ∈ P.1 f := by rw [e]; simp
    have hcn := w.2.2.2.1 f c hcm
    have hmod := mod_lt1 hR2 c
    have hs : c / R 1 < R 0 := (Nat.div_lt_iff_lt_mul (by omega)).mpr hcn.1
    have hf : f < 5 ∨ f = 5 ∨ f = 6 ∨ f = 7 := by omega
    rw [if_neg (by rw [nI_eq (by omega) (by omega)]; exact f9)]
    obtain ⟨I1, L1, b1, b2, b3, b4, b5⟩ := m_play_14 (t := t) w.1 (show f < 8 by omega) hn16 a5 a6 (fun y => by
      rcases y with y | y
      · rw [y]; exact (w.2.2.1 0 (by omega)).1
      · rw [y]; exact (w.2.2.1 1 (by omega)).1) (fun _ => by omega) n 0 FU I L (by omega) (FU_gt (by omega)) (fun i hi => absurd hi (Nat.not_lt_zero i)) (by rw [takeP_0 w.1]; exact h)
    rw [b1]
    unfold F_X6_play_b38
    rw [pk_sub hn]
    have hm1 : nI (n - 1) = nI n + (-1) := by
      obtain ⟨q, rfl⟩ : ∃ q, n = q + 1 := ⟨n - 1, by omega⟩
      rw [pk_m1]; rfl
    rw [hm1, stP_0 f9]
    rw [← stP_n (R := R) (t := t) hn] at b2
    obtain ⟨I2, L2, c1, c2, c3, c4⟩ := m_play_43 w.1 ht a3 (show t ≠ 7 by omega) a5 (fun ht5 => by
      have e3 : (carryP P f t n).1 t = (P.1 f).take n ++ P.1 t := by
        show (if t = f then _ else if t = t ∧ t ≠ 8 then _ else _) = _
        rw [if_neg (fun y => a3 y.symm), if_pos ⟨rfl, by omega⟩]
      rw [e3, List.length_append, List.length_take, Nat.min_eq_left a5] at hok
      exact hok) (by omega) (fun _ => by rw [e]; show c / R 1 < 4 ∧ P.2.2.1 (c / R 1) < 6; omega) (fun ht5 => by
      unfold legal at hl
      rw [if_neg f9, e] at hl
      dsimp only at hl
      rw [if_neg (by omega), if_pos ht5] at hl
      simp only [Bool.and_eq_true] at hl
      simpa using hl.2.2) n FU I1 L1 (Nat.le_refl n) (FU_gt (by omega)) (by rw [b3.1 1 (by omega)]; exact hr) b5 b2
    exact ⟨I2, L2, c1, c2, b3.trans c3, b4.trans c4⟩
