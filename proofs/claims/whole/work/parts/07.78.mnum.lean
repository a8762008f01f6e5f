/-! ===== the second reading: the number of a deal ===== -/
def cntPl (R : Nat → Nat) (q : Nat) : Nat → Nat → Nat
  | _, 0 => 0
  | k, n + 1 => cntPl R q (k + 1) n + (if q = placeA R k then 1 else 0)
theorem layP_app {R : Nat → Nat} {q : Nat} : ∀ (cs : List Nat) (k : Nat) (P : Pos), ∃ u, (layP R cs k P).1 q = u ++ P.1 q ∧ u.length = cntPl R q k cs.length
  | [], _, P => ⟨[], rfl, rfl⟩
  | c :: r, k, P => by
    obtain ⟨u, h1, h2⟩ := layP_app (R := R) (q := q) r (k + 1) (putP R P c (placeA R k))
    show ∃ u, (layP R r (k + 1) (putP R P c (placeA R k))).1 q = u ++ P.1 q ∧ u.length = cntPl R q (k + 1) r.length + (if q = placeA R k then 1 else 0)
    rw [h1]
    by_cases e : q = placeA R k
    · refine ⟨u ++ [c], ?_, by rw [List.length_append, h2, if_pos e]; rfl⟩
      rw [show (putP R P c (placeA R k)).1 q = c :: P.1 (placeA R k) by unfold putP; dsimp only; rw [if_pos e], e, List.append_assoc]; rfl
    · refine ⟨u, ?_, by rw [h2, if_neg e]; rfl⟩
      rw [show (putP R P c (placeA R k)).1 q = P.1 q by unfold putP; dsimp only; rw [if_neg e]]
theorem layP_inj {R : Nat → Nat} : ∀ (cs ds : List Nat) (k : Nat) (P Q : Pos), cs.length = ds.length → (∀ q, (∃ i, q = placeA R i) → (layP R cs k P).1 q = (layP R ds k Q).1 q) → cs = ds
  | [], [], _, _, _, _, _ => rfl
  | [], _ :: _, _, _, _, h, _ => by simp at h
  | _ :: _, [], _, _, _, h, _ => by simp at h
  | c :: r, d :: s, k, P, Q, h, e => by
    have hl : r.length = s.length := by simpa using h
    have e1 := layP_inj r s (k + 1) (putP R P c (placeA R k)) (putP R Q d (placeA R k)) hl e
    have e2 := e (placeA R k) ⟨k, rfl⟩
    obtain ⟨u, a1, a2⟩ := layP_app (R := R) (q := placeA R k) r (k + 1) (putP R P c (placeA R k))
    obtain ⟨v, b1, b2⟩ := layP_app (R := R) (q := placeA R k) s (k + 1) (putP R Q d (placeA R k))
    change (layP R r (k + 1) (putP R P c (placeA R k))).1 (placeA R k) = (layP R s (k + 1) (putP R Q d (placeA R k))).1 (placeA R k) at e2
    rw [a1, b1, show (putP R P c (placeA R k)).1 (placeA R k) = c :: P.1 (placeA R k) by unfold putP; dsimp only; rw [if_pos rfl], show (putP R Q d (placeA R k)).1 (placeA R k) = d :: Q.1 (placeA R k) by unfold putP; dsimp only; rw [if_pos rfl]] at e2
    have e3 := (List.append_inj e2 (by rw [a2, b2, hl])).2
    rw [List.cons.injEq] at e3
    rw [e1, e3.1]
theorem key_lists {P Q : Pos} (hP : KOk P) (hQ : KOk Q) (h : ∀ k, k < 8 → keyL P k = keyL Q k) : (∀ p, p < 5 → P.1 p = Q.1 p) ∧ P.1 9 = Q.1 9 := by
  have k5 : sumB 10 (hgt P) 5 = sumB 10 (hgt Q) 5 := h 5 (by omega)
  have k6 : w6 P 4 = w6 Q 4 := h 6 (by omega)
  have k7 : sumB 4 (botN (P.1 7)) 8 + sumB 4 (botN (P.1 9)) 8 * 4294967296 = sumB 4 (botN (Q.1 7)) 8 + sumB 4 (botN (Q.1 9)) 8 * 4294967296 := h 7 (by omega)
  constructor
  · intro p hp
    have e1 : hgt P p = hgt Q p := by
      have a := sumB_at (b := 10) (d := hgt P) (k := 5) (i := p) (fun i _ => hgt_lt hP i) hp
      have b := sumB_at (b := 10) (d := hgt Q) (k := 5) (i := p) (fun i _ => hgt_lt hQ i) hp
      rw [← a, ← b, k5]
    have e2 : pkT (P.1 p) = pkT (Q.1 p) := by
      have := h p (by omega)
      unfold keyL at this
      rw [if_pos hp, if_pos hp] at this
      exact this
    exact (ckey_inj hP hQ (by unfold ckey; rw [e1, e2])).1
  · have a1 : sumB 4 (botN (P.1 7)) 8 < 4294967296 := sumB_lt (b := 4) (d := botN (P.1 7)) (k := 8) (fun i _ => botN_lt hP 7 i)
    have a2 : sumB 4 (botN (Q.1 7)) 8 < 4294967296 := sumB_lt (b := 4) (d := botN (Q.1 7)) (k := 8) (fun i _ => botN_lt hQ 7 i)
    have e9 : sumB 4 (botN (P.1 9)) 8 = sumB 4 (botN (Q.1 9)) 8 := by
      generalize sumB 4 (botN (P.1 7)) 8 = x at a1 k7
      generalize sumB 4 (botN (Q.1 7)) 8 = y at a2 k7
      generalize sumB 4 (botN (P.1 9)) 8 = z at k7 ⊢
      generalize sumB 4 (botN (Q.1 9)) 8 = t at k7 ⊢
      omega
    have t1 := w6_top P hP
    have t2 := w6_top Q hQ
    have p1 := hP.2.2.2
    have p2 := hQ.2.2.2
    have hl : (P.1 9).length = (Q.1 9).length := by
      rw [k6] at t1
      rw [t1] at t2
      generalize sumB 3 P.2.2.1 4 = x at t2
      generalize sumB 3 Q.2.2.1 4 = y at t2
      clear k5 k6 k7 a1 a2 e9 t1 h
      generalize (P.1 7).length = a at t2 p1
      generalize (P.1 9).length = b at t2 p1 ⊢
      generalize (Q.1 7).length = c at t2 p2
      generalize (Q.1 9).length = d at t2 p2 ⊢
      generalize P.2.2.2 = f at t2 p1
      generalize Q.2.2.2 = g at t2 p2
      have e1 : f + a * 4 + b * 64 < 1024 := by omega
      have e2 : g + c * 4 + d * 64 < 1024 := by omega
      have e3 : f + a * 4 + b * 64 = g + c * 4 + d * 64 := by omega
      have e4 : f + a * 4 < 64 := by omega
      have e5 : g + c * 4 < 64 := by omega
      omega
    refine bot_inj (by omega) hl (fun i hi => ?_)
    have a := sumB_at (b := 4) (d := botN (P.1 9)) (k := 8) (i := i) (fun i _ => botN_lt hP 9 i) hi
    have b := sumB_at (b := 4) (d := botN (Q.1 9)) (k := 8) (i := i) (fun i _ => botN_lt hQ 9 i) hi
    rw [← a, ← b, e9]
theorem deal_same {R : Nat → Nat} (hR : RulesOk R) {m1 x1 m2 x2 : Nat} (h1 : m1 < 2) (h2 : m2 < 2) : (∀ k, k < 8 → keyL (dealP R m1 x1) k = keyL (dealP R m2 x2) k) ↔ cardsA R m1 x1 = cardsA R m2 x2 := by
  constructor
  · intro h
    obtain ⟨a, b⟩ := key_lists ((wf_dealP hR h1).kok hR) ((wf_dealP hR h2).kok hR) h
    refine layP_inj (R := R) _ _ 0 emptyP emptyP (by rw [cardsA_len, cardsA_len]) (fun q hq => ?_)
    obtain ⟨i, rfl⟩ := hq
    have h3 := placeA_lt hR i
    have hR2 : R 2 ≤ 5 := by unfold RulesOk at hR; omega
    rcases h3.2 with z | z
    · exact a _ (by omega)
    · rw [z]; exact b
  · intro h k _
    unfold dealP; rw [h]
def allK (L : Nat → Nat → Int64) (k j : Nat) : Bool := (List.range' k j).all (fun i => decide (L 3 i = L 1 i))
theorem m_num_63 (K38 : (Nat → Nat → Int32) → (Nat → Nat → Int64) → Int32 → Int32 → Int32 → Option (Int32 × (Nat → Nat → Int32) × (Nat → Nat → Int64))) (I : Nat → Nat → Int32) (L : Nat → Nat → Int64) (v1 v2 v3 : Int32) : ∀ (j k n : Nat) (b : Bool), k + j = 8 → j < n →
    F_X6_numberOf_L63 K38 n I L v1 v2 v3 (bi b) (nI k) = if (b && allK L k j) = true then K38 I L v1 v3 (v3 + (-1)) else K38 I L v1 v2 (v3 + (-1)) := by
  have e0 : ∀ x y : Int64, (lg_cmp x y = nI 0) ↔ x = y := fun x y => lg_cmp_eq x y
  intro j
  induction j with
  | zero =>
    intro k n b hk hn
    obtain ⟨n, rfl⟩ : ∃ q, n = q + 1 := ⟨n - 1, by omega⟩
    show F_X6_numberOf_s63 K38 (F_X6_numberOf_L63 K38 n) _ _ _ _ _ _ _ = _
    unfold F_X6_numberOf_s63 F_X6_numberOf_b106
    rw [if_pos (nI_le (by omega) (by omega)), bi_if, show allK L k 0 = true from rfl, Bool.and_true]
  | succ j ih =>
    intro k n b hk hn
    obtain ⟨n, rfl⟩ : ∃ q, n = q + 1 := ⟨n - 1, by omega⟩
    have i0 := ih (k + 1) n false (by omega) (by omega)
    have i1 := ih (k + 1) n true (by omega) (by omega)
    have e : allK L k (j + 1) = (decide (L 3 k = L 1 k) && allK L (k + 1) j) := rfl
    rw [Bool.false_and, if_neg Bool.false_ne_true] at i0
    rw [Bool.true_and] at i1
    show F_X6_numberOf_s63 K38 (F_X6_numberOf_L63 K38 n) _ _ _ _ _ _ _ = _
    unfold F_X6_numberOf_s63
    rw [if_neg (nI_ge (by omega) (by omega)), bi_if, nI_add, e]
    cases b
    · rw [if_neg Bool.false_ne_true, Bool.false_and, if_neg Bool.false_ne_true]; exact i0
    · rw [if_pos rfl, rdA_n _ (by omega) (by omega), rdA_n _ (by omega) (by omega), Bool.true_and]
      by_cases q : L 3 k = L 1 k
      · rw [if_pos ((e0 _ _).mpr q), decide_eq_true q, Bool.true_and]; exact i1
      · rw [if_neg (fun y => q ((e0 _ _).mp y)), decide_eq_false q, Bool.false_and, if_neg Bool.false_ne_true]; exact i0
theorem allK_iff {L : Nat → Nat → Int64} {R : Nat → Nat} (hR : RulesOk R) {m1 x1 m2 x2 : Nat} (h1 : m1 < 2) (h2 : m2 < 2) (a : ∀ i, i < 8 → L 3 (0 + i) = lN (keyL (dealP R m1 x1) i)) (b : ∀ i, i < 8 → L 1 (8 * 0 + i) = lN (keyL (dealP R m2 x2) i)) : allK L 0 8 = decide (cardsA R m1 x1 = cardsA R m2 x2) := by
  have k1 := (wf_dealP hR h1 (x := x1)).kok hR
  have k2 := (wf_dealP hR h2 (x := x2)).kok hR
  have e := deal_same hR (m1 := m1) (x1 := x1) (m2 := m2) (x2 := x2) h1 h2
  apply Bool.eq_iff_iff.mpr
  rw [decide_eq_true_eq, ← e]
  unfold allK
  rw [List.all_eq_true]
  constructor
  · intro h k hk
    have := h k (List.mem_range'_1.mpr ⟨Nat.zero_le _, by omega⟩)
    rw [decide_eq_true_eq] at this
    have a' := a k hk
    have b' := b k hk
    rw [Nat.zero_add] at a'
    rw [Nat.mul_zero, Nat.zero_add] at b'
    exact lN_inj64 (keyL_lt k1 k) (keyL_lt k2 k) (by rw [← a', ← b', this])
  · intro h k hk
    have hk8 : k < 8 := by have := (List.mem_range'_1.mp hk).2; omega
    rw [decide_eq_true_eq]
    have a' := a k hk8
    have b' := b k hk8
    rw [Nat.zero_add] at a'
    rw [Nat.mul_zero, Nat.zero_add] at b'
    rw [a', b', h k hk8]
/-- the lowest number that gives the same cards -/
def numF (R : Nat → Nat) (mc : Nat) (cs : List Nat) (k j : Nat) : Int32 := optI ((List.range' k j).find? (fun x => decide (cardsA R mc x = cs)))
def aNumberOf (A : AS) (v : Int32) : Nat × Int32 × AS := if inB v 0 1 = true then (0, numF A.2.1 (nV v) (cardsA A.2.1 A.2.2.2.2.2.1 A.2.2.2.2.2.2) 0 501, A) else (1, nI 0, A)
theorem dec_nI (j : Nat) : nI (j + 1) + (-1) = nI j := by
  rw [← nI_add, Int32.add_assoc, show nI 1 + (-1 : Int32) = 0 by decide, Int32.add_zero]
theorem m_num_38 {R : Nat → Nat} {mc m2 x2 : Nat} (hm : mc < 2) (hm2 : m2 < 2) : ∀ (j n : Nat) (I : Nat → Nat → Int32) (L : Nat → Nat → Int64), j ≤ 501 → j < n → RR (I 1) R → (∀ i, i < 8 → L 1 (8 * 0 + i) = lN (keyL (dealP R m2 x2) i)) →
    ∃ I' L', F_X6_numberOf_L38 n I L (nI mc) (numF R mc (cardsA R m2 x2) j (501 - j)) (nI j + (-1)) = F_X6_numberOf_b123 I' L' (numF R mc (cardsA R m2 x2) 0 501) ∧ FrM I I' ∧ FrLM L L' := by
  intro j
  induction j with
  | zero =>
    intro n I L hj hn hr hL
    obtain ⟨n, rfl⟩ : ∃ q, n = q + 1 := ⟨n - 1, by omega⟩
    refine ⟨I, L, ?_, FrM.refl I, FrLM.refl L⟩
    show F_X6_numberOf_s38 (F_X6_numberOf_L38 n) _ _ _ _ _ = _
    unfold F_X6_numberOf_s38
    rw [if_pos (by decide)]
  | succ j ih =>
    intro n I L hj hn hr hL
    obtain ⟨n, rfl⟩ : ∃ q, n = q + 1 := ⟨n - 1, by omega⟩
    obtain ⟨I1, L1, a1, a2, a3, a4⟩ := m_lay (I := I) (L := L) hm (show j < 2147483648 by omega) hr (deal_inv hr.2 hm)
    have hr1 : RR (I1 1) R := by rw [a3.1 1 (by omega)]; exact hr
    obtain ⟨L2, b1, b2⟩ := m_store (cc := 3) (nn := 3216) (o := 0) a2 ((wf_dealP hr.2 hm).kok hr.2) (by omega) (by omega) (by omega)
    have hL1 : ∀ i, L2 1 i = L 1 i := fun i => by rw [b2.2 1 i (by omega), a4 1 (by omega)]
    have hL' : ∀ i, i < 8 → L2 1 (8 * 0 + i) = lN (keyL (dealP R m2 x2) i) := fun i hi => by rw [hL1]; exact hL i hi
    have e := allK_iff hr.2 hm hm2 (fun i hi => b2.1 i hi) hL'
    obtain ⟨I3, L3, c1, c2, c3⟩ := ih n I1 L2 (by omega) (by omega) hr1 hL'
    have fL : FrLM L L2 := ⟨funext hL1, funext fun i => by rw [b2.2 2 i (by omega), a4 2 (by omega)]⟩
    refine ⟨I3, L3, ?_, a3.m.trans c2, fL.trans c3⟩
    rw [← c1]
    show F_X6_numberOf_s38 (F_X6_numberOf_L38 n) _ _ _ _ _ = _
    unfold F_X6_numberOf_s38
    rw [dec_nI, if_neg (nI_nlt (Nat.zero_le _) (by omega)), a1, cal2_s, b1, cal1_s, show nI 1 = bi true from rfl, m_num_63 _ _ _ _ _ _ 8 0 FU true (by omega) (FU_gt (by omega)), Bool.true_and, e]
    have er : List.range' j (501 - j) = j :: List.range' (j + 1) (501 - (j + 1)) := by
      rw [show 501 - j = (501 - (j + 1)) + 1 by omega]; rfl
    by_cases q : cardsA R mc j = cardsA R m2 x2
    · rw [decide_eq_true q, if_pos rfl]
      have : numF R mc (cardsA R m2 x2) j (501 - j) = nI j := by
        unfold numF
        rw [er, List.find?_cons_of_pos (p := fun x => decide (cardsA R mc x = cardsA R m2 x2)) (decide_eq_true q)]; rfl
      rw [this]
    · rw [decide_eq_false q, if_neg Bool.false_ne_true]
      have : numF R mc (cardsA R m2 x2) j (501 - j) = numF R mc (cardsA R m2 x2) (j + 1) (501 - (j + 1)) := by
        unfold numF
        rw [er, List.find?_cons_of_neg (p := fun x => decide (cardsA R mc x = cardsA R m2 x2)) (by rw [decide_eq_true_eq]; exact q)]
      rw [this]
theorem M_numberOf {A : AS} {I : Nat → Nat → Int32} {L : Nat → Nat → Int64} (hA : okA A) (h : MSt A I L) (v : Int32) : MStep (F_X6_numberOf I L v) (aNumberOf A v) := by
  unfold aNumberOf F_X6_numberOf F_X6_numberOf_b15
  rw [well0, well1 _ _ (Or.inl rfl), m_inB, cal1_s, bi_if]
  by_cases q : inB v 0 1 = true
  · rw [if_pos q, if_pos q]
    obtain ⟨e1, -, b1⟩ := inB_nV (by omega) (by omega) q
    have h1 := h.th (nI 0)
    obtain ⟨L1, c1, c2⟩ := m_store (cc := 2) (nn := 8) (o := 0) h1.2.2.1 (hA.wf.kok hA.2.1) (by omega) (by omega) (by omega)
    have hL : ∀ i, i < 8 → L1 1 (8 * 0 + i) = lN (keyL (dealP A.2.1 A.2.2.2.2.2.1 A.2.2.2.2.2.2) i) := fun i hi => by
      rw [c2.2 1 _ (by omega)]; exact h1.2.2.2.2.2.2 0 _ hA.2.2.2.2.2.1 i hi
    obtain ⟨I2, L2, d1, d2, d3⟩ := m_num_38 (R := A.2.1) (mc := nV v) (x2 := A.2.2.2.2.2.2) (by omega) hA.2.2.2.2.2.2.1 501 FU (st2 I 0 0 (nI 0)) L1 (Nat.le_refl _) (FU_gt (by omega)) h1.2.1 hL
    obtain ⟨I6, L6, r1, r2, r3, r4⟩ := m_load (I := I2) (L := L2) (cc := 2) (nn := 8) (o := 0) (hA.wf.kok hA.2.1) (by omega) (by omega) (by omega) (fun i hi => by rw [d3.2]; exact c2.1 i hi)
    rw [dec_nI, ← e1, show numF A.2.1 (nV v) (cardsA A.2.1 A.2.2.2.2.2.1 A.2.2.2.2.2.2) 501 (501 - 501) = -1 from rfl] at d1
    refine ⟨I6, L6, ?_, (d2.trans r3.m).th, h1.fr (d2.trans r3.m) ?_ r2⟩
    · rw [c1, cal1_s, d1]
      unfold F_X6_numberOf_b123
      rw [r1, cal2_s]
    · rw [r4 1 (by omega), d3.1]
      exact funext fun j => c2.2 1 j (by omega)
  · rw [if_neg q, if_neg q]
    exact ⟨st2 I 0 0 (nI 1), L, rfl, th_s _ _, h.th _⟩
