/-! ===== alike by the cards below is alike by sorted numbers ===== -/
theorem cell_top {P : Pos} (h : KOk P) {p : Nat} (hp : p = 5 ∨ p = 6) (c : Nat) : c ∈ P.1 p ↔ topN (P.1 p) = c + 1 := by
  constructor
  · intro hc; rw [cell_one h hp hc]; rfl
  · intro e
    cases e2 : P.1 p with
    | nil => rw [e2] at e; cases e
    | cons d r =>
      rw [e2] at e
      have : d + 1 = c + 1 := e
      have : d = c := by omega
      subst this; simp
theorem bot_inj {l m : List Nat} (hl : l.length ≤ 8) (hn : l.length = m.length) (h : ∀ i, i < 8 → botN l i = botN m i) : l = m := by
  apply List.ext_getElem hn
  intro i h1 h2
  have a := h (l.length - 1 - i) (by omega)
  unfold botN at a
  rw [if_pos (by omega), if_pos (by omega), show l.length - 1 - (l.length - 1 - i) = i by omega, show m.length - 1 - (l.length - 1 - i) = i by omega, List.getD_eq_getElem?_getD, List.getD_eq_getElem?_getD, List.getElem?_eq_getElem h1, List.getElem?_eq_getElem h2] at a
  exact a
theorem w6_top (P : Pos) (h : KOk P) : w6 P 4 / 2 ^ 10 = P.2.2.2 + (P.1 7).length * 4 + (P.1 9).length * 64 + sumB 3 P.2.2.1 4 * 1024 := by
  have t5 := topN_lt h 5
  have t6 := topN_lt h 6
  unfold w6
  generalize sumB 3 P.2.2.1 4 = S
  generalize topN (P.1 5) = a at t5 ⊢
  generalize topN (P.1 6) = b at t6 ⊢
  simp only [show (2 : Nat) ^ 5 = 32 by decide, show (2 : Nat) ^ 10 = 1024 by decide, show (2 : Nat) ^ 12 = 4096 by decide, show (2 : Nat) ^ 16 = 65536 by decide, show (2 : Nat) ^ 20 = 1048576 by decide]
  omega
def mnN (P : Pos) : Nat := if topN (P.1 6) ≤ topN (P.1 5) then topN (P.1 6) else topN (P.1 5)
def mxN (P : Pos) : Nat := if topN (P.1 6) ≤ topN (P.1 5) then topN (P.1 5) else topN (P.1 6)
theorem w6s_eq (P : Pos) : w6s P = mnN P + mxN P * 32 + w6 P 4 / 2 ^ 10 * 1024 := rfl
theorem mn_lt {P : Pos} (h : KOk P) : mnN P < 32 ∧ mxN P < 32 := by
  have t5 := topN_lt h 5
  have t6 := topN_lt h 6
  unfold mnN mxN
  split <;> omega
theorem w6s_lt {P : Pos} (h : KOk P) : w6s P < 2 ^ 64 := by
  have h1 := mn_lt h
  have h2 := h.2.2.2
  have h3 : sumB 3 P.2.2.1 4 < 4096 := sumB_lt (b := 3) (d := P.2.2.1) (k := 4) (fun i _ => h.2.2.1 i)
  rw [w6s_eq, w6_top P h]
  omega
theorem w7_lt {P : Pos} (h : KOk P) : w7 P 8 < 2 ^ 64 := by rw [← keyL_7]; exact keyL_lt h 7
theorem w6s_iff {P Q : Pos} (hP : KOk P) (hQ : KOk Q) : w6s P = w6s Q ↔ (mnN P = mnN Q ∧ mxN P = mxN Q ∧ P.2.2.2 = Q.2.2.2 ∧ (P.1 7).length = (Q.1 7).length ∧ (P.1 9).length = (Q.1 9).length ∧ sumB 3 P.2.2.1 4 = sumB 3 Q.2.2.1 4) := by
  have h1 := mn_lt hP
  have h2 := mn_lt hQ
  have h3 := hP.2.2.2
  have h4 := hQ.2.2.2
  rw [w6s_eq, w6s_eq, w6_top P hP, w6_top Q hQ]
  generalize sumB 3 P.2.2.1 4 = S
  generalize sumB 3 Q.2.2.1 4 = S'
  generalize mnN P = a at h1 ⊢
  generalize mxN P = b at h1 ⊢
  generalize mnN Q = a' at h2 ⊢
  generalize mxN Q = b' at h2 ⊢
  generalize P.2.2.2 = t at h3 ⊢
  generalize Q.2.2.2 = t' at h4 ⊢
  generalize (P.1 7).length = d at h3 ⊢
  generalize (Q.1 7).length = d' at h4 ⊢
  generalize (P.1 9).length = e at h3 ⊢
  generalize (Q.1 9).length = e' at h4 ⊢
  constructor
  · intro h
    have g1 : a = a' := by omega
    subst g1
    have g2 : b = b' := by omega
    subst g2
    have g3 : t + d * 4 + e * 64 + S * 1024 = t' + d' * 4 + e' * 64 + S' * 1024 := by omega
    have g4 : t = t' := by omega
    subst g4
    have g5 : d = d' := by omega
    subst g5
    have g6 : e = e' := by omega
    subst g6
    exact ⟨rfl, rfl, rfl, rfl, rfl, by omega⟩
  · rintro ⟨rfl, rfl, rfl, rfl, rfl, rfl⟩; rfl
theorem cells_sub {P Q : Pos} (hP : KOk P) (hQ : KOk Q) (h1 : mnN P = mnN Q) (h2 : mxN P = mxN Q) (c : Nat) (hc : c ∈ P.1 5 ∨ c ∈ P.1 6) : c ∈ Q.1 5 ∨ c ∈ Q.1 6 := by
  rw [cell_top hP (Or.inl rfl), cell_top hP (Or.inr rfl)] at hc
  rw [cell_top hQ (Or.inl rfl), cell_top hQ (Or.inr rfl)]
  unfold mnN at h1
  unfold mxN at h2
  by_cases z1 : topN (P.1 6) ≤ topN (P.1 5) <;> by_cases z2 : topN (Q.1 6) ≤ topN (Q.1 5) <;> simp only [z1, z2, if_true, if_false] at h1 h2 <;> omega
theorem cells_mn {P Q : Pos} (hP : KOk P) (hQ : KOk Q) (h : ∀ c, (c ∈ P.1 5 ∨ c ∈ P.1 6) ↔ (c ∈ Q.1 5 ∨ c ∈ Q.1 6)) : mnN P = mnN Q ∧ mxN P = mxN Q := by
  have d : ∀ P : Pos, KOk P → topN (P.1 5) = topN (P.1 6) → topN (P.1 5) = 0 := by
    intro P hP e
    rcases Nat.eq_zero_or_pos (topN (P.1 5)) with z | z
    · exact z
    · have a := (cell_top hP (p := 5) (Or.inl rfl) (topN (P.1 5) - 1)).mpr (by omega)
      have b := (cell_top hP (p := 6) (Or.inr rfl) (topN (P.1 5) - 1)).mpr (by omega)
      have := hP.1.2.2.1 5 6 _ a b
      omega
  have dP := d P hP
  have dQ := d Q hQ
  have t : ∀ c, (topN (P.1 5) = c + 1 ∨ topN (P.1 6) = c + 1) ↔ (topN (Q.1 5) = c + 1 ∨ topN (Q.1 6) = c + 1) := fun c => by
    rw [← cell_top hP (Or.inl rfl), ← cell_top hP (Or.inr rfl), ← cell_top hQ (Or.inl rfl), ← cell_top hQ (Or.inr rfl)]; exact h c
  have t1 := t (topN (P.1 5) - 1)
  have t2 := t (topN (P.1 6) - 1)
  have t3 := t (topN (Q.1 5) - 1)
  have t4 := t (topN (Q.1 6) - 1)
  unfold mnN mxN
  generalize topN (P.1 5) = a at *
  generalize topN (P.1 6) = b at *
  generalize topN (Q.1 5) = e at *
  generalize topN (Q.1 6) = f at *
  by_cases z1 : b ≤ a <;> by_cases z2 : f ≤ e <;> simp only [z1, z2, if_true, if_false] <;> omega
theorem up_same {R : Nat → Nat} (hR : RulesOk R) {P Q : Pos} (wP : WF R P) (wQ : WF R Q) (h : ∀ c, c < 16 → onN P c = onN Q c) (s : Nat) : P.2.2.1 s = Q.2.2.1 s := by
  have hR2 := hR
  unfold RulesOk at hR2
  have half : ∀ {P Q : Pos}, WF R P → WF R Q → (∀ c, c < 16 → onN P c = onN Q c) → ¬ P.2.2.1 s < Q.2.2.1 s := by
    intro P Q wP wQ h hlt
    have u1 := wQ.2.2.2.2.2.1 s
    have hs : s < R 0 := by
      rcases Nat.lt_or_ge s (R 0) with z | z
      · exact z
      · have := wQ.2.2.2.2.2.2.1 s z; omega
    have hd : (s * R 1 + P.2.2.1 s) / R 1 = s := by
      rw [Nat.mul_comm, Nat.mul_add_div (by omega), Nat.div_eq_of_lt (by omega), Nat.add_zero]
    have hm : (s * R 1 + P.2.2.1 s) % R 1 = P.2.2.1 s := by
      rw [Nat.mul_comm, Nat.mul_add_mod, Nat.mod_eq_of_lt (by omega)]
    have hc : s * R 1 + P.2.2.1 s < R 0 * R 1 := by
      have : (s + 1) * R 1 ≤ R 0 * R 1 := Nat.mul_le_mul_right _ hs
      rw [Nat.add_mul] at this
      omega
    have a := wP.on20 hc
    have b := wQ.on20 hc
    rw [hd, hm] at a b
    rw [h _ (by omega)] at a
    have := a.mp (b.mpr hlt)
    omega
  have h1 := half wP wQ h
  have h2 := half wQ wP (fun c hc => (h c hc).symm)
  omega
theorem SK_same {R : Nat → Nat} (hR : RulesOk R) {P Q : Pos} (wP : WF R P) (wQ : WF R Q) {f g : Nat → Int64} (hf : SK P (R 2) f) (hg : SK Q (R 2) g) : (∀ i, i < 8 → f i = g i) ↔ sameB P Q = true := by
  have hR2 := hR
  unfold RulesOk at hR2
  have hP := wP.kok hR
  have hQ := wQ.kok hR
  have hp := SK_perm hP hQ (show R 2 ≤ 5 by omega) hf hg
  have hk : sameB P Q = true ↔ keyC P Q := by unfold sameB keyC; exact decide_eq_true_iff
  rw [hk, keyC_iff wP.1 wQ.1]
  constructor
  · intro h
    have perm := hp.mp (fun i hi => h i (by omega))
    have e6 := (w6s_iff hP hQ).mp (lN_inj64 (w6s_lt hP) (w6s_lt hQ) (by rw [← hf.2.2.2.1, ← hg.2.2.2.1]; exact h 6 (by omega)))
    have e7 : w7 P 8 = w7 Q 8 := lN_inj64 (w7_lt hP) (w7_lt hQ) (by rw [← hf.2.2.2.2, ← hg.2.2.2.2]; exact h 7 (by omega))
    have l8 := hP.2.2.2.1
    have s7 : P.1 7 = Q.1 7 := bot_inj (by omega) e6.2.2.2.1 (fun i hi => by rw [← w7_lo hP hi, ← w7_lo hQ hi, e7])
    have s9 : P.1 9 = Q.1 9 := bot_inj (by omega) e6.2.2.2.2.1 (fun i hi => by rw [← w7_hi hP hi, ← w7_hi hQ hi, e7])
    have cols : ∀ {P Q : Pos}, KOk P → KOk Q → WF R P → (APl P (R 2)).Perm (APl Q (R 2)) → ∀ p, p < 5 → P.1 p ≠ [] → ∃ q, q < 5 ∧ Q.1 q = P.1 p ∧ Q.2.1 q = P.2.1 p := by
      intro P Q hP hQ wP perm p hp hne
      have hpN : p < R 2 := by
        rcases Nat.lt_or_ge p (R 2) with z | z
        · exact z
        · exact absurd (wP.2.1 p hp z) hne
      have hm : ckey P p ∈ APl P (R 2) := by unfold APl; rw [List.mem_map]; exact ⟨p, by simpa using hpN, rfl⟩
      have hm2 := perm.mem_iff.mp hm
      unfold APl at hm2
      rw [List.mem_map] at hm2
      obtain ⟨q, hq, e⟩ := hm2
      have hq2 : q < R 2 := by simpa using hq
      have := ckey_inj hQ hP e
      exact ⟨q, by omega, this.1, this.2⟩
    have m1 : Mt P Q := ⟨cols hP hQ wP perm, cells_sub hP hQ e6.1 e6.2.1, s7.symm, s9.symm⟩
    have m2 : Mt Q P := ⟨cols hQ hP wQ perm.symm, cells_sub hQ hP e6.1.symm e6.2.1.symm, s7, s9⟩
    exact ⟨fun c _ => (Mt_all hP hQ m1 m2 c).1, fun c _ => (Mt_all hP hQ m1 m2 c).2, e6.2.2.1⟩
  · rintro ⟨h1, h2, h3⟩
    have m1 := on_Mt wP.1 wQ.1 h1 h2
    have m2 := on_Mt wQ.1 wP.1 (fun c hc => (h1 c hc).symm) (fun c hc => (h2 c hc).symm)
    have perm := Mt_perm hP hQ m1 m2 (show R 2 ≤ 5 by omega) wP.2.1 wQ.2.1
    have c1 := hp.mpr perm
    have mm := cells_mn hP hQ (fun c => ⟨m1.2.1 c, m2.2.1 c⟩)
    have es : sumB 3 P.2.2.1 4 = sumB 3 Q.2.2.1 4 := sumB_congr (fun i _ => up_same hR wP wQ h1 i)
    have e6 : w6s P = w6s Q := (w6s_iff hP hQ).mpr ⟨mm.1, mm.2, h3, by rw [m1.2.2.1], by rw [m1.2.2.2], es⟩
    have e7 : w7 P 8 = w7 Q 8 := by unfold w7; rw [m1.2.2.1, m1.2.2.2]
    intro i hi
    rcases Nat.lt_or_ge i 6 with z | z
    · exact c1 i z
    · have : i = 6 ∨ i = 7 := by omega
      rcases this with y | y
      · rw [y, hf.2.2.2.1, hg.2.2.2.1, e6]
      · rw [y, hf.2.2.2.2, hg.2.2.2.2, e7]
