/-! ===== the second reading: a deal, laid whole ===== -/
theorem m_lay_60 {R : Nat → Nat} {mc : Nat} (hm : mc < 2) (hR : RulesOk R) : ∀ (l k x n : Nat) (row : Nat → Nat) (P : Pos) (I : Nat → Nat → Int32) (L : Nat → Nat → Int64), k + l = R 0 * R 1 → l < n → x < 2147483648 → RR (I 1) R → MRep I L (noH P) → (∀ p, (P.1 p).length ≤ k) → (P.1 9).length = k - (R 0 * R 1 - R 6) → (∀ p c, c ∈ P.1 p → c < 16) → (∀ i, i < l → I 9 i = nI (row i) ∧ row i < 16) →
    ∃ I' L', F_X6_lay_L60 n I L (nI mc) (nI l) (lN x) (nI (R 0 * R 1 - R 6)) (nI k) = F_X6_lay_L181 FU I' L' (nI 0) ∧ MRep I' L' (noH (layP R (drawL mc l x row) k P)) ∧ FrI I I' ∧ FrL L L' := by
  have hR2 := hR
  unfold RulesOk at hR2
  intro l
  induction l with
  | zero =>
    intro k x n row P I L hk hn hx hr h h1 h2 h3 h4
    obtain ⟨n, rfl⟩ : ∃ q, n = q + 1 := ⟨n - 1, by omega⟩
    refine ⟨I, L, ?_, h, FrI.refl I, FrL.refl L⟩
    show F_X6_lay_s60 (F_X6_lay_L60 n) _ _ _ _ _ _ _ = _
    unfold F_X6_lay_s60
    rw [rdA_n _ (by omega) (by omega), hr.1 6 (by omega), nI_add, if_pos (nI_le (by omega) (by omega))]
  | succ l ih =>
    intro k x n row P I L hk hn hx hr h h1 h2 h3 h4
    obtain ⟨n, rfl⟩ : ∃ q, n = q + 1 := ⟨n - 1, by omega⟩
    show ∃ I' L', F_X6_lay_s60 (F_X6_lay_L60 n) _ _ _ _ _ _ _ = _ ∧ _
    unfold F_X6_lay_s60 nzL
    have hy := nextN_lt mc x
    have hp : nextN mc x / 65536 % 32768 % (l + 1) < l + 1 := Nat.mod_lt _ (by omega)
    have hq : nextN mc x / 65536 % 32768 < 32768 := Nat.mod_lt _ (by omega)
    have hnz : ¬ lN (l + 1) = 0 := fun e => by
      have := (lN_eq (a := l + 1) (b := 0) (by omega) (by omega)).mp e
      omega
    rw [rdA_n _ (by omega) (by omega), hr.1 6 (by omega), nI_add, if_neg (nI_ge (by omega) (by omega)), m_next hm hx, cal1_s, if_neg (show ¬ lN 65536 = 0 by decide), if_neg (show ¬ lN 32768 = 0 by decide), nI_l (by omega), if_neg hnz, pk_lDiv (by omega) (by omega) (by omega), pk_lRem (by omega) (by omega) (by omega), pk_lRem (by omega) (by omega) (by omega), lN_i, pk_sub (by omega), Nat.add_sub_cancel, pk_m1]
    unfold drawL layP
    generalize nextN mc x = y at hy hp ⊢
    generalize y / 65536 % 32768 % (l + 1) = p at hp ⊢
    rw [rdA_n _ (by omega) (by omega), rdA_n _ (by omega) (by omega), (h4 p hp).1, (h4 l (by omega)).1, wrA_n _ (by omega) (by omega)]
    have hc16 := (h4 p hp).2
    have hrow : ∀ i, i < l → (if i = p then row l else row i) < 16 := fun i hi => by
      split
      · exact (h4 l (by omega)).2
      · exact (h4 i (by omega)).2
    have hrow2 : ∀ i, i < l → st2 I 9 p (nI (row l)) 9 i = nI (if i = p then row l else row i) := fun i hi => by
      rw [st2_s]
      by_cases z : i = p
      · rw [if_pos ⟨rfl, z⟩, if_pos z]
      · rw [if_neg (fun y => z y.2), if_neg z]; exact (h4 i (by omega)).1
    have hlen : ∀ q r, ((putP R P (row p) q).1 r).length ≤ k + 1 := fun q r => by
      show (if r = q then row p :: P.1 q else P.1 r).length ≤ _
      have := h1 q
      have := h1 r
      split
      · rw [List.length_cons]; omega
      · omega
    have hmem : ∀ q r c, c ∈ (putP R P (row p) q).1 r → c < 16 := fun q r c hc => by
      have hc2 : c ∈ (if r = q then row p :: P.1 q else P.1 r) := hc
      split at hc2
      · rw [List.mem_cons] at hc2
        rcases hc2 with z | z
        · rw [z]; exact hc16
        · exact h3 q c z
      · exact h3 r c hc2
    by_cases q : k < R 0 * R 1 - R 6
    · have epl : placeA R k = k % R 2 := by unfold placeA; rw [if_pos q]
      have hkm : k % R 2 < R 2 := Nat.mod_lt _ (by omega)
      have e12 : st2 I 9 p (nI (row l)) 1 2 = nI (R 2) := by rw [st2_s, if_neg (by omega), hr.1 2 (by omega)]
      obtain ⟨b1, b2, b3⟩ := h.1 (k % R 2) (by omega)
      have hl1 := h1 (k % R 2)
      rw [if_neg (nI_ge q (by omega)), rdA_n _ (by omega) (by omega), e12, nz_n _ (by omega) (by omega), pk_rem (by omega) (by omega) (by omega), m_push (l := P.1 (k % R 2)) (by omega) b1 (by rw [st2_s, if_neg (by omega)]; exact b2) (by omega) (h3 _) hc16, cal2_s, nI_add, epl]
      obtain ⟨I', L', e1, e2, e3, e4⟩ := ih (k + 1) y n (fun i => if i = p then row l else row i) (putP R P (row p) (k % R 2)) (st2 (st2 I 9 p (nI (row l))) 3 (k % R 2) (nI ((P.1 (k % R 2)).length + 1))) (stJ L 0 (k % R 2) (lN (pkT (row p :: P.1 (k % R 2))))) (by omega) (by omega) hy (by rw [((FrI.st (by omega) (by omega)).trans (FrI.st (by omega) (by omega)) : FrI I _).1 1 (by omega)]; exact hr)
        (h.put (by omega) (by rw [stJ_s, if_pos ⟨rfl, rfl⟩]) (by rw [st2_s, if_pos ⟨rfl, rfl⟩]) (fun q hq => by rw [stJ_s, if_neg (fun y => hq y.2)]) (fun a j ha hb => by rw [st2_s, if_neg ha, st2_s, if_neg (fun y => hb y.1)]))
        (hlen _) (by show (if 9 = k % R 2 then _ else P.1 9 : List Nat).length = _; rw [if_neg (by omega), h2]; omega) (hmem _) (fun i hi => ⟨by rw [st2_s, if_neg (by omega)]; exact hrow2 i hi, hrow i hi⟩)
      exact ⟨I', L', e1, e2, ((FrI.st (by omega) (by omega)).trans (FrI.st (by omega) (by omega))).trans e3, FrL.stJ.trans e4⟩
    · have epl : placeA R k = 9 := by unfold placeA; rw [if_neg q]
      have e23 : st2 I 9 p (nI (row l)) 0 23 = nI (P.1 9).length := by rw [st2_s, if_neg (by omega)]; exact h.2.2.2.2.1.1
      have e23b : st2 (st2 I 9 p (nI (row l))) 8 (P.1 9).length (nI (row p)) 0 23 = nI (P.1 9).length := by rw [st2_s, if_neg (by omega), e23]
      rw [if_pos (nI_le (by omega) (by omega)), e23, wrA_n _ (by omega) (by omega), bnd_s, e23b, nI_add, nI_add, epl]
      obtain ⟨I', L', e1, e2, e3, e4⟩ := ih (k + 1) y n (fun i => if i = p then row l else row i) (putP R P (row p) 9) (st2 (st2 (st2 I 9 p (nI (row l))) 8 (P.1 9).length (nI (row p))) 0 23 (nI ((P.1 9).length + 1))) L (by omega) (by omega) hy (by rw [(((FrI.st (by omega) (by omega)).trans (FrI.st (by omega) (by omega))).trans (FrI.st0 (Or.inr (Or.inl rfl))) : FrI I _).1 1 (by omega)]; exact hr)
        (h.put9 (by rw [st2_s, if_neg (by omega), st2_s, if_pos ⟨rfl, rfl⟩]) (by rw [st2_s, if_pos ⟨rfl, rfl⟩]) (fun a j ha hb hc => by rw [st2_s, if_neg hb, st2_s, if_neg ha, st2_s, if_neg (fun y => hc y.1)]))
        (hlen _) (by show (if 9 = 9 then row p :: P.1 9 else P.1 9 : List Nat).length = _; rw [if_pos rfl, List.length_cons, h2]; omega) (hmem _) (fun i hi => ⟨by rw [st2_s, if_neg (by omega), st2_s, if_neg (by omega)]; exact hrow2 i hi, hrow i hi⟩)
      exact ⟨I', L', e1, e2, (((FrI.st (by omega) (by omega)).trans (FrI.st (by omega) (by omega))).trans (FrI.st0 (Or.inr (Or.inl rfl)))).trans e3, e4⟩
theorem m_lay_181 {R : Nat → Nat} {P : Pos} (hR : RulesOk R) (hlen : ∀ p, (P.1 p).length ≤ 16) : ∀ (j k n : Nat) (I : Nat → Nat → Int32) (L : Nat → Nat → Int64), k + j = R 2 → j < n → RR (I 1) R → MRep I L (P.1, fun p => if p < k ∧ R 8 = 1 then (P.1 p).length - 1 else 0, P.2.2.1, P.2.2.2) →
    ∃ I', F_X6_lay_L181 n I L (nI k) = some (I', L) ∧ MRep I' L (P.1, fun p => if p < R 2 ∧ R 8 = 1 then (P.1 p).length - 1 else 0, P.2.2.1, P.2.2.2) ∧ FrI I I' := by
  have hR2 := hR
  unfold RulesOk at hR2
  intro j
  induction j with
  | zero =>
    intro k n I L hk hn hr h
    obtain ⟨n, rfl⟩ : ∃ q, n = q + 1 := ⟨n - 1, by omega⟩
    have : k = R 2 := by omega
    subst this
    refine ⟨I, ?_, h, FrI.refl I⟩
    show F_X6_lay_s181 (F_X6_lay_L181 n) _ _ _ = _
    unfold F_X6_lay_s181
    rw [rdA_n _ (by omega) (by omega), hr.1 2 (by omega), if_pos (nI_le (by omega) (by omega))]
  | succ j ih =>
    intro k n I L hk hn hr h
    obtain ⟨n, rfl⟩ : ∃ q, n = q + 1 := ⟨n - 1, by omega⟩
    show ∃ I', F_X6_lay_s181 (F_X6_lay_L181 n) _ _ _ = _ ∧ _
    have hl := hlen k
    have b2 := (h.1 k (by omega)).2.1
    dsimp only at b2
    have fin : ∀ x, x = (if R 8 = 1 then (P.1 k).length - 1 else 0) → ∃ I', F_X6_lay_b232 (F_X6_lay_L181 n) I L (nI k) (nI k) (nI x) = some (I', L) ∧ MRep I' L (P.1, fun p => if p < R 2 ∧ R 8 = 1 then (P.1 p).length - 1 else 0, P.2.2.1, P.2.2.2) ∧ FrI I I' := by
      intro x hx
      unfold F_X6_lay_b232
      rw [wrA_n _ (by omega) (by omega), nI_add]
      obtain ⟨I', e1, e2, e3⟩ := ih (k + 1) n (st2 I 4 k (nI x)) L (by omega) (by omega) (by rw [(FrI.st (by omega) (by omega) : FrI I _).1 1 (by omega)]; exact hr) (by
        have g : ∀ a j, ¬ (a = 4 ∧ j = k) → st2 I 4 k (nI x) a j = I a j := fun a j ha => by rw [st2_s, if_neg ha]
        refine ⟨fun p hp => ?_, fun j hj => ?_, fun s hs => ?_, ⟨?_, fun i hi => ?_⟩, ⟨?_, fun i hi => ?_⟩, ?_⟩
        · obtain ⟨c1, c2, c3⟩ := h.1 p hp
          refine ⟨c1, by rw [g 3 p (by omega)]; exact c2, ?_⟩
          dsimp only at c3 ⊢
          by_cases z : p = k
          · subst z
            rw [st2_s, if_pos ⟨rfl, rfl⟩, hx]
            by_cases y : R 8 = 1
            · rw [if_pos y, if_pos ⟨by omega, y⟩]
            · rw [if_neg y, if_neg (fun w => y w.2)]
          · rw [g 4 p (by omega), c3]
            by_cases y : p < k ∧ R 8 = 1
            · rw [if_pos y, if_pos ⟨by omega, y.2⟩]
            · rw [if_neg y, if_neg (by omega)]
        · rw [g 5 j (by omega)]; exact h.2.1 j hj
        · rw [g 6 s (by omega)]; exact h.2.2.1 s hs
        · rw [g 0 21 (by omega)]; exact h.2.2.2.1.1
        · rw [g 7 i (by omega)]; exact h.2.2.2.1.2 i hi
        · rw [g 0 23 (by omega)]; exact h.2.2.2.2.1.1
        · rw [g 8 i (by omega)]; exact h.2.2.2.2.1.2 i hi
        · rw [g 0 24 (by omega)]; exact h.2.2.2.2.2)
      exact ⟨I', e1, e2, (FrI.st (by omega) (by omega)).trans e3⟩
    unfold F_X6_lay_s181
    rw [rdA_n _ (by omega) (by omega), hr.1 2 (by omega), if_neg (nI_ge (by omega) (by omega)), rdA_n _ (by omega) (by omega), hr.1 8 (by omega), rdA_n _ (by omega) (by omega), b2, rdA_n _ (by omega) (by omega), b2]
    by_cases y : R 8 = 1
    · rw [if_pos (by rw [y])]
      by_cases z : (P.1 k).length = 0
      · rw [if_pos (nI_le (by omega) (by omega))]; exact fin 0 (by rw [if_pos y]; omega)
      · rw [if_neg (nI_ge (by omega) (by omega)), pk_sub (by omega)]; exact fin _ (by rw [if_pos y])
    · rw [if_neg (by rw [nI_eq (by omega) (by omega)]; exact y)]; exact fin 0 (by rw [if_neg y])
theorem m_lay_21 {R : Nat → Nat} {mc x : Nat} (hm : mc < 2) (hx : x < 2147483648) (hR : RulesOk R) (hd : LayInv R (dealP R mc x) (cardsA R mc x)) : ∀ (j k n : Nat) (I : Nat → Nat → Int32) (L : Nat → Nat → Int64), k + j = R 0 * R 1 → j < n → RR (I 1) R → MRep I L (noH emptyP) → (∀ i, i < k → I 9 i = nI i) →
    ∃ I' L', F_X6_lay_L21 n I L (nI mc) (nI x) (nI (R 0 * R 1)) (nI k) = some (I', L') ∧ MRep I' L' (dealP R mc x) ∧ FrI I I' ∧ FrL L L' := by
  have hR2 := hR
  unfold RulesOk at hR2
  intro j
  induction j with
  | zero =>
    intro k n I L hk hn hr h hrow
    obtain ⟨n, rfl⟩ : ∃ q, n = q + 1 := ⟨n - 1, by omega⟩
    show ∃ I' L', F_X6_lay_s21 (F_X6_lay_L21 n) _ _ _ _ _ _ = _ ∧ _
    unfold F_X6_lay_s21 F_X6_lay_b42
    rw [if_pos (nI_le (by omega) (by omega)), rdA_n _ (by omega) (by omega), hr.1 6 (by omega), nI_l (by omega), pk_sub (by omega)]
    obtain ⟨I1, L1, e1, e2, e3, e4⟩ := m_lay_60 hm hR (R 0 * R 1) 0 x FU id emptyP I L (by omega) (FU_gt (by omega)) hx hr h (fun p => Nat.le_refl 0) (by show 0 = _; omega) (fun p c hc => by cases hc) (fun i hi => ⟨hrow i (by omega), by show i < 16; omega⟩)
    have e2' : MRep I1 L1 (noH (dealP R mc x)) := e2
    obtain ⟨I2, g1, g2, g3⟩ := m_lay_181 (P := dealP R mc x) hR (hd.1.len) (R 2) 0 FU I1 L1 (by omega) (FU_gt (by omega)) (by rw [e3.1 1 (by omega)]; exact hr) (by
      have ee : ((dealP R mc x).1, (fun p => if p < 0 ∧ R 8 = 1 then ((dealP R mc x).1 p).length - 1 else 0), (dealP R mc x).2.2.1, (dealP R mc x).2.2.2) = noH (dealP R mc x) := by
        unfold noH
        refine Prod.ext rfl (Prod.ext ?_ rfl)
        funext p; dsimp only; rw [if_neg (by omega)]
      rw [ee]; exact e2')
    refine ⟨I2, L1, e1.trans g1, ?_, e3.trans g3, e4⟩
    refine ⟨fun p hp => ?_, g2.2⟩
    obtain ⟨c1, c2, c3⟩ := g2.1 p hp
    refine ⟨c1, c2, ?_⟩
    rw [c3, hd.2.1 p hp]
    dsimp only
    by_cases y : R 8 = 1
    · rw [if_pos y]
      by_cases z : p < R 2
      · rw [if_pos ⟨z, y⟩]
      · rw [if_neg (fun w => z w.1), hd.2.2.2.2.2.1 p hp (by omega)]; rfl
    · rw [if_neg y, if_neg (fun w => y w.2)]
  | succ j ih =>
    intro k n I L hk hn hr h hrow
    obtain ⟨n, rfl⟩ : ∃ q, n = q + 1 := ⟨n - 1, by omega⟩
    show ∃ I' L', F_X6_lay_s21 (F_X6_lay_L21 n) _ _ _ _ _ _ = _ ∧ _
    unfold F_X6_lay_s21
    rw [if_neg (nI_ge (by omega) (by omega)), wrA_n _ (by omega) (by omega), nI_add]
    obtain ⟨I', L', e1, e2, e3, e4⟩ := ih (k + 1) n (st2 I 9 k (nI k)) L (by omega) (by omega) (by rw [(FrI.st (by omega) (by omega) : FrI I _).1 1 (by omega)]; exact hr) (h.st9 _ _) (fun i hi => by
      rw [st2_s]
      by_cases z : i = k
      · rw [if_pos ⟨rfl, z⟩, z]
      · rw [if_neg (fun y => z y.2)]; exact hrow i (by omega))
    exact ⟨I', L', e1, e2, (FrI.st (by omega) (by omega)).trans e3, e4⟩
theorem m_lay {I : Nat → Nat → Int32} {L : Nat → Nat → Int64} {R : Nat → Nat} {mc x : Nat} (hm : mc < 2) (hx : x < 2147483648) (hr : RR (I 1) R) (hd : LayInv R (dealP R mc x) (cardsA R mc x)) : ∃ I' L', F_X6_lay I L (nI mc) (nI x) = some (I', L') ∧ MRep I' L' (dealP R mc x) ∧ FrI I I' ∧ FrL L L' := by
  have hR := hr.2
  unfold RulesOk at hR
  unfold F_X6_lay
  obtain ⟨I1, L1, e1, e2, e3, e4⟩ := m_clear I L
  have hr1 : RR (I1 1) R := by rw [e3.1 1 (by omega)]; exact hr
  rw [e1, cal2_s, rdA_n _ (by omega) (by omega), rdA_n _ (by omega) (by omega), hr1.1 0 (by omega), hr1.1 1 (by omega), pk_mul]
  obtain ⟨I2, L2, g1, g2, g3, g4⟩ := m_lay_21 hm hx hr.2 hd (R 0 * R 1) 0 FU I1 L1 (by omega) (FU_gt (by omega)) hr1 e2 (fun i hi => absurd hi (Nat.not_lt_zero i))
  exact ⟨I2, L2, g1, g2, e3.trans g3, e4.trans g4⟩
