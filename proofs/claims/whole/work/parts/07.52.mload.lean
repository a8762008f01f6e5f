/-! ===== the second reading: load ===== -/
theorem w7_lo {P : Pos} (h : KOk P) {i : Nat} (hi : i < 8) : w7 P 8 / 2 ^ (4 * i) % 16 = botN (P.1 7) i := by
  unfold w7
  have e : sumB 4 (botN (P.1 9)) 8 * 2 ^ 32 = 2 ^ (4 * i) * (2 ^ 4 * (sumB 4 (botN (P.1 9)) 8 * 2 ^ (28 - 4 * i))) := by
    rw [← Nat.mul_assoc, ← Nat.pow_add, Nat.mul_comm, Nat.mul_comm (sumB 4 (botN (P.1 9)) 8), ← Nat.mul_assoc, ← Nat.pow_add]
    congr 2
    omega
  rw [e, Nat.add_mul_div_left _ _ (Nat.two_pow_pos _)]
  have := Nat.add_mul_mod_self_left (sumB 4 (botN (P.1 7)) 8 / 2 ^ (4 * i)) (2 ^ 4) (sumB 4 (botN (P.1 9)) 8 * 2 ^ (28 - 4 * i))
  rw [show (16 : Nat) = 2 ^ 4 by decide]
  rw [this]
  exact sumB_at (fun i _ => botN_lt h 7 i) hi
theorem w7_hi {P : Pos} (h : KOk P) {i : Nat} (hi : i < 8) : w7 P 8 / 2 ^ (32 + 4 * i) % 16 = botN (P.1 9) i := by
  have a1 : sumB 4 (botN (P.1 7)) 8 < 2 ^ 32 := sumB_lt (b := 4) (d := botN (P.1 7)) (k := 8) (fun i _ => botN_lt h 7 i)
  unfold w7
  rw [Nat.pow_add, ← Nat.div_div_eq_div_mul, Nat.mul_comm (sumB 4 (botN (P.1 9)) 8), Nat.add_mul_div_left _ _ (Nat.two_pow_pos _), Nat.div_eq_of_lt a1, Nat.zero_add]
  exact sumB_at (fun i _ => botN_lt h 9 i) hi
theorem w6_hi {P : Pos} (h : KOk P) {s : Nat} (hs : s < 4) : w6 P 4 / 2 ^ (20 + 3 * s) % 8 = P.2.2.1 s := by
  have a1 := (w6_0 h).2
  rw [w6_eq, Nat.pow_add, ← Nat.div_div_eq_div_mul, Nat.mul_comm (sumB 3 P.2.2.1 4), Nat.add_mul_div_left _ _ (Nat.two_pow_pos _), Nat.div_eq_of_lt a1, Nat.zero_add]
  exact sumB_at (b := 3) (fun i _ => h.2.2.1 i) hs
theorem w6_lo {P : Pos} (h : KOk P) : w6 P 4 % 32 = topN (P.1 5) ∧ w6 P 4 / 2 ^ 5 % 32 = topN (P.1 6) ∧ w6 P 4 / 2 ^ 10 % 4 = P.2.2.2 ∧ w6 P 4 / 2 ^ 12 % 16 = (P.1 7).length ∧ w6 P 4 / 2 ^ 16 % 16 = (P.1 9).length := by
  have t5 := topN_lt h 5
  have t6 := topN_lt h 6
  have h1 := h.2.2.2.1
  have h2 := h.2.2.2.2
  unfold w6
  generalize sumB 3 P.2.2.1 4 = S
  generalize topN (P.1 5) = a at t5 ⊢
  generalize topN (P.1 6) = b at t6 ⊢
  generalize P.2.2.2 = c at h2 ⊢
  generalize (P.1 7).length = d at h1 ⊢
  generalize (P.1 9).length = e at h1 ⊢
  simp only [show (2 : Nat) ^ 5 = 32 by decide, show (2 : Nat) ^ 10 = 1024 by decide, show (2 : Nat) ^ 12 = 4096 by decide, show (2 : Nat) ^ 16 = 65536 by decide, show (2 : Nat) ^ 20 = 1048576 by decide]
  refine ⟨?_, ?_, ?_, ?_, ?_⟩ <;> omega
theorem hgt_split {P : Pos} (h : KOk P) (p : Nat) : hgt P p % 2 ^ 5 = (P.1 p).length ∧ hgt P p / 2 ^ 5 = P.2.1 p := by
  have h1 := h.1.len p
  unfold hgt
  rw [show (2 : Nat) ^ 5 = 32 by decide]
  omega
theorem botN_at {P : Pos} {p i : Nat} (h : i < (P.1 p).length) : botN (P.1 p) i = (P.1 p).getD ((P.1 p).length - 1 - i) 0 := by unfold botN; rw [if_pos h]
def MC (I : Nat → Nat → Int32) (L : Nat → Nat → Int64) (P : Pos) (k : Nat) : Prop := ∀ p, p < k → L 0 p = lN (pkT (P.1 p)) ∧ I 3 p = nI (P.1 p).length ∧ I 4 p = nI (P.2.1 p)
def MD (I : Nat → Nat → Int32) (P : Pos) : Prop := (∀ k, k < 2 → I 5 k = topI (P.1 (5 + k))) ∧ I 0 21 = nI (P.1 7).length ∧ I 0 23 = nI (P.1 9).length ∧ I 0 24 = nI P.2.2.2
theorem m_ld177 {L : Nat → Nat → Int64} {P : Pos} (hk : KOk P) {cc nn o : Nat} (ho : o + 8 ≤ nn) (hnn : nn < 2 ^ 30) (hL : L cc (o + 7) = lN (keyL P 7)) :
    ∀ (j k n : Nat) (I : Nat → Nat → Int32), k + j = 8 → j < n → MC I L P 5 → MD I P → (∀ s, s < 4 → I 6 s = nI (P.2.2.1 s)) → (∀ i, i < k → I 7 i = nI (botN (P.1 7) i) ∧ I 8 i = nI (botN (P.1 9) i)) →
    ∃ I', F_X6_load_L177 cc nn n I L (nI o) (nI k) = some (I', L) ∧ MRep I' L P ∧ FrI I I' := by
  have h8 := hk.2.2.2.1
  have hlt := keyL_lt hk 7
  intro j
  induction j with
  | zero =>
    intro k n I hk2 hn h1 h2 h3 h4
    obtain ⟨n, rfl⟩ : ∃ q, n = q + 1 := ⟨n - 1, by omega⟩
    refine ⟨I, ?_, ⟨h1, h2.1, h3, ⟨h2.2.1, fun i hi => ?_⟩, ⟨h2.2.2.1, fun i hi => ?_⟩, h2.2.2.2⟩, FrI.refl I⟩
    · show F_X6_load_s177 cc nn (F_X6_load_L177 cc nn n) _ _ _ _ = _
      unfold F_X6_load_s177
      rw [if_pos (nI_le (by omega) (by omega))]
    · rw [(h4 i (by omega)).1, botN_at hi]
    · rw [(h4 i (by omega)).2, botN_at hi]
  | succ j ih =>
    intro k n I hk2 hn h1 h2 h3 h4
    obtain ⟨n, rfl⟩ : ∃ q, n = q + 1 := ⟨n - 1, by omega⟩
    show ∃ I', F_X6_load_s177 cc nn (F_X6_load_L177 cc nn n) _ _ _ _ = _ ∧ _
    unfold F_X6_load_s177
    have d1 : keyL P 7 / 2 ^ (4 * k) < 2 ^ 64 := Nat.lt_of_le_of_lt (Nat.div_le_self _ _) hlt
    have d2 : keyL P 7 / 2 ^ (32 + 4 * k) < 2 ^ 64 := Nat.lt_of_le_of_lt (Nat.div_le_self _ _) hlt
    have e1 : keyL P 7 / 2 ^ (4 * k) % 2 ^ 4 = botN (P.1 7) k := by rw [keyL_7]; exact w7_lo hk (by omega)
    have e2 : keyL P 7 / 2 ^ (32 + 4 * k) % 2 ^ 4 = botN (P.1 9) k := by rw [keyL_7]; exact w7_hi hk (by omega)
    rw [if_neg (nI_ge (by omega) (by omega)), nI_add, rdA_n _ (by omega) (by omega), hL, pk_mul, wb_shr hlt (by omega), wb_mask (k := 4) d1 (by omega), lN_i, e1, wrA_n _ (by omega) (by omega), rdA_n _ (by omega) (by omega), hL, nI_add, wb_shr hlt (by omega), wb_mask (k := 4) d2 (by omega), lN_i, e2, wrA_n _ (by omega) (by omega), nI_add]
    have g : ∀ a j, ¬ ((a = 7 ∨ a = 8) ∧ j = k) → st2 (st2 I 7 k (nI (botN (P.1 7) k))) 8 k (nI (botN (P.1 9) k)) a j = I a j := fun a j ha => by
      rw [st2_s, if_neg (fun y => ha ⟨Or.inr y.1, y.2⟩), st2_s, if_neg (fun y => ha ⟨Or.inl y.1, y.2⟩)]
    obtain ⟨I', r1, r2, r3⟩ := ih (k + 1) n (st2 (st2 I 7 k (nI (botN (P.1 7) k))) 8 k (nI (botN (P.1 9) k))) (by omega) (by omega) (fun p hp => by rw [g 3 p (by omega), g 4 p (by omega)]; exact h1 p hp) ⟨fun j hj => by rw [g 5 j (by omega)]; exact h2.1 j hj, by rw [g 0 21 (by omega)]; exact h2.2.1, by rw [g 0 23 (by omega)]; exact h2.2.2.1, by rw [g 0 24 (by omega)]; exact h2.2.2.2⟩ (fun s hs => by rw [g 6 s (by omega)]; exact h3 s hs) (fun i hi => by
      by_cases z : i = k
      · rw [z, st2_s, if_neg (by omega), st2_s, if_pos ⟨rfl, rfl⟩, st2_s, if_pos ⟨rfl, rfl⟩]; exact ⟨rfl, rfl⟩
      · rw [g 7 i (by omega), g 8 i (by omega)]; exact h4 i (by omega))
    exact ⟨I', r1, r2, ((FrI.st (by omega) (by omega)).trans (FrI.st (by omega) (by omega))).trans r3⟩
theorem m_ld141 {L : Nat → Nat → Int64} {P : Pos} (hk : KOk P) {cc nn o : Nat} (ho : o + 8 ≤ nn) (hnn : nn < 2 ^ 30) (hL : L cc (o + 7) = lN (keyL P 7)) :
    ∀ (j k n : Nat) (I : Nat → Nat → Int32), k + j = 4 → j < n → MC I L P 5 → MD I P → (∀ s, s < k → I 6 s = nI (P.2.2.1 s)) →
    ∃ I', F_X6_load_L141 cc nn n I L (nI o) (lN (keyL P 6)) (nI k) = some (I', L) ∧ MRep I' L P ∧ FrI I I' := by
  have hlt := keyL_lt hk 6
  intro j
  induction j with
  | zero =>
    intro k n I hk2 hn h1 h2 h3
    obtain ⟨n, rfl⟩ : ∃ q, n = q + 1 := ⟨n - 1, by omega⟩
    show ∃ I', F_X6_load_s141 cc nn (F_X6_load_L141 cc nn n) _ _ _ _ _ = _ ∧ _
    unfold F_X6_load_s141
    rw [if_pos (nI_le (by omega) (by omega))]
    exact m_ld177 hk ho hnn hL 8 0 FU I (by omega) (FU_gt (by omega)) h1 h2 (fun s hs => h3 s (by omega)) (fun i hi => absurd hi (Nat.not_lt_zero i))
  | succ j ih =>
    intro k n I hk2 hn h1 h2 h3
    obtain ⟨n, rfl⟩ : ∃ q, n = q + 1 := ⟨n - 1, by omega⟩
    show ∃ I', F_X6_load_s141 cc nn (F_X6_load_L141 cc nn n) _ _ _ _ _ = _ ∧ _
    unfold F_X6_load_s141
    have d1 : keyL P 6 / 2 ^ (20 + 3 * k) < 2 ^ 64 := Nat.lt_of_le_of_lt (Nat.div_le_self _ _) hlt
    have e1 : keyL P 6 / 2 ^ (20 + 3 * k) % 2 ^ 3 = P.2.2.1 k := by rw [keyL_6]; exact w6_hi hk (by omega)
    rw [if_neg (nI_ge (by omega) (by omega)), pk_mul, nI_add, wb_shr hlt (by omega), wb_mask (k := 3) d1 (by omega), lN_i, e1, wrA_n _ (by omega) (by omega), nI_add]
    have g : ∀ a j, ¬ (a = 6 ∧ j = k) → st2 I 6 k (nI (P.2.2.1 k)) a j = I a j := fun a j ha => by rw [st2_s, if_neg ha]
    obtain ⟨I', r1, r2, r3⟩ := ih (k + 1) n (st2 I 6 k (nI (P.2.2.1 k))) (by omega) (by omega) (fun p hp => by rw [g 3 p (by omega), g 4 p (by omega)]; exact h1 p hp) ⟨fun j hj => by rw [g 5 j (by omega)]; exact h2.1 j hj, by rw [g 0 21 (by omega)]; exact h2.2.1, by rw [g 0 23 (by omega)]; exact h2.2.2.1, by rw [g 0 24 (by omega)]; exact h2.2.2.2⟩ (fun s hs => by
      by_cases z : s = k
      · rw [z, st2_s, if_pos ⟨rfl, rfl⟩]
      · rw [g 6 s (by omega)]; exact h3 s (by omega))
    exact ⟨I', r1, r2, (FrI.st (by omega) (by omega)).trans r3⟩
theorem m_ld62 {L : Nat → Nat → Int64} {P : Pos} (hk : KOk P) {cc nn o : Nat} (ho : o + 8 ≤ nn) (hnn : nn < 2 ^ 30) (hL6 : L cc (o + 6) = lN (keyL P 6)) (hL : L cc (o + 7) = lN (keyL P 7)) (I : Nat → Nat → Int32) (h1 : MC I L P 5) :
    ∃ I', F_X6_load_b62 cc nn I L (nI o) = some (I', L) ∧ MRep I' L P ∧ FrI I I' := by
  have hlt := keyL_lt hk 6
  obtain ⟨a1, a2, a3, a4, a5⟩ := w6_lo hk
  have d : ∀ k, keyL P 6 / 2 ^ k < 2 ^ 64 := fun k => Nat.lt_of_le_of_lt (Nat.div_le_self _ _) hlt
  have m5 : lN (keyL P 6) &&& lN 31 = lN (topN (P.1 5)) := by rw [wb_mask (k := 5) hlt (by omega), keyL_6]; exact congrArg lN a1
  have m6 : ((lN (keyL P 6)).toUInt64 >>> ((nI 5).toInt64.toUInt64 &&& Int64.toUInt64 63)).toInt64 &&& lN 31 = lN (topN (P.1 6)) := by rw [wb_shr hlt (by omega), wb_mask (k := 5) (d 5) (by omega), keyL_6]; exact congrArg lN a2
  have m10 : ((lN (keyL P 6)).toUInt64 >>> ((nI 10).toInt64.toUInt64 &&& Int64.toUInt64 63)).toInt64 &&& lN 3 = lN P.2.2.2 := by rw [wb_shr hlt (by omega), wb_mask (k := 2) (d 10) (by omega), keyL_6]; exact congrArg lN a3
  have m12 : ((lN (keyL P 6)).toUInt64 >>> ((nI 12).toInt64.toUInt64 &&& Int64.toUInt64 63)).toInt64 &&& lN 15 = lN (P.1 7).length := by rw [wb_shr hlt (by omega), wb_mask (k := 4) (d 12) (by omega), keyL_6]; exact congrArg lN a4
  have m16 : ((lN (keyL P 6)).toUInt64 >>> ((nI 16).toInt64.toUInt64 &&& Int64.toUInt64 63)).toInt64 &&& lN 15 = lN (P.1 9).length := by rw [wb_shr hlt (by omega), wb_mask (k := 4) (d 16) (by omega), keyL_6]; exact congrArg lN a5
  have t5 := (topN_I (hk.1.1 5)).2.2
  have t6 := (topN_I (hk.1.1 6)).2.2
  unfold F_X6_load_b62
  rw [nI_add, rdA_n _ (by omega) (by omega), hL6, m5, lN_i, t5, wrA_n _ (by omega) (by omega), m6, lN_i, t6, wrA_n _ (by omega) (by omega), m10, lN_i, bnd_s, m12, lN_i, bnd_s, m16, lN_i, bnd_s]
  generalize hJ : st2 (st2 (st2 (st2 (st2 I 5 0 (topI (P.1 5))) 5 1 (topI (P.1 6))) 0 24 (nI P.2.2.2)) 0 21 (nI (P.1 7).length)) 0 23 (nI (P.1 9).length) = J
  have hF : FrI I J := by
    rw [← hJ]
    exact ((((FrI.st (by omega) (by omega)).trans (FrI.st (by omega) (by omega))).trans (FrI.st0 (Or.inr (Or.inr rfl)))).trans (FrI.st0 (Or.inl rfl))).trans (FrI.st0 (Or.inr (Or.inl rfl)))
  have g : ∀ a j, a ≠ 5 → a ≠ 0 → J a j = I a j := fun a j h5 h0 => by
    rw [← hJ]; simp only [st2_s]
    rw [if_neg (fun y => h0 y.1), if_neg (fun y => h0 y.1), if_neg (fun y => h0 y.1), if_neg (fun y => h5 y.1), if_neg (fun y => h5 y.1)]
  obtain ⟨I', r1, r2, r3⟩ := m_ld141 hk ho hnn hL 4 0 FU J (by omega) (FU_gt (by omega)) (fun p hp => by rw [g 3 p (by omega) (by omega), g 4 p (by omega) (by omega)]; exact h1 p hp) (by
    rw [← hJ]
    refine ⟨fun k hk => ?_, by simp [st2_s], by simp [st2_s], by simp [st2_s]⟩
    have : k = 0 ∨ k = 1 := by omega
    rcases this with z | z <;> subst z <;> simp [st2_s]) (fun s hs => absurd hs (Nat.not_lt_zero s))
  exact ⟨I', r1, r2, hF.trans r3⟩
theorem m_ld2 {L : Nat → Nat → Int64} {P : Pos} (hk : KOk P) {cc nn o : Nat} (hc : cc ≠ 0) (ho : o + 8 ≤ nn) (hnn : nn < 2 ^ 30) (hL : ∀ i, i < 8 → L cc (o + i) = lN (keyL P i)) :
    ∀ (j k n : Nat) (I : Nat → Nat → Int32) (L1 : Nat → Nat → Int64), k + j = 5 → j < n → FrL L L1 → MC I L1 P k →
    ∃ I' L', F_X6_load_L2 cc nn n I L1 (nI o) (nI k) = some (I', L') ∧ MRep I' L' P ∧ FrI I I' ∧ FrL L L' := by
  intro j
  induction j with
  | zero =>
    intro k n I L1 hk2 hn hf h1
    obtain ⟨n, rfl⟩ : ∃ q, n = q + 1 := ⟨n - 1, by omega⟩
    show ∃ I' L', F_X6_load_s2 cc nn (F_X6_load_L2 cc nn n) _ _ _ _ = _ ∧ _
    unfold F_X6_load_s2
    have : k = 5 := by omega
    subst this
    rw [if_pos (nI_le (by omega) (by omega))]
    obtain ⟨I', r1, r2, r3⟩ := m_ld62 hk ho hnn (by rw [hf cc hc]; exact hL 6 (by omega)) (by rw [hf cc hc]; exact hL 7 (by omega)) I h1
    exact ⟨I', L1, r1, r2, r3, hf⟩
  | succ j ih =>
    intro k n I L1 hk2 hn hf h1
    obtain ⟨n, rfl⟩ : ∃ q, n = q + 1 := ⟨n - 1, by omega⟩
    show ∃ I' L', F_X6_load_s2 cc nn (F_X6_load_L2 cc nn n) _ _ _ _ = _ ∧ _
    unfold F_X6_load_s2
    have hlt := keyL_lt hk 5
    have d1 : keyL P 5 / 2 ^ (10 * k) < 2 ^ 64 := Nat.lt_of_le_of_lt (Nat.div_le_self _ _) hlt
    have e1 : keyL P 5 / 2 ^ (10 * k) % 2 ^ 10 = hgt P k := by rw [keyL_5]; exact sumB_at (fun i _ => hgt_lt hk i) (by omega)
    have c1 : L1 cc (o + k) = lN (keyL P k) := by rw [hf cc hc]; exact hL k (by omega)
    have c5 : stJ L1 0 k (lN (keyL P k)) cc (o + 5) = lN (keyL P 5) := by rw [stJ_s, if_neg (fun y => hc y.1), hf cc hc]; exact hL 5 (by omega)
    have hh := hgt_lt hk k
    obtain ⟨s1, s2⟩ := hgt_split hk k
    rw [if_neg (nI_ge (by omega) (by omega)), nI_add, rdA_n _ (by omega) (by omega), c1, wrJ_n _ (by omega) (by omega), nI_add, rdA_n _ (by omega) (by omega), c5, pk_mul, wb_shr hlt (by omega), wb_mask (k := 10) d1 (by omega), lN_i, e1, show nI (hgt P k) &&& nI 31 = nI (hgt P k % 2 ^ 5) from fa_mask _ 5, s1, wrA_n _ (by omega) (by omega), pk_shrN (by omega) _ 5 (by decide), s2, wrA_n _ (by omega) (by omega), nI_add]
    obtain ⟨I', L', r1, r2, r3, r4⟩ := ih (k + 1) n (st2 (st2 I 3 k (nI (P.1 k).length)) 4 k (nI (P.2.1 k))) (stJ L1 0 k (lN (keyL P k))) (by omega) (by omega) (hf.trans FrL.stJ) (fun p hp => by
      rw [stJ_s, st2_s, st2_s, st2_s, st2_s]
      by_cases z : p = k
      · rw [if_pos ⟨rfl, z⟩, if_neg (by omega), if_pos ⟨rfl, z⟩, if_pos ⟨rfl, z⟩, z, keyL_c (by omega)]; exact ⟨rfl, rfl, rfl⟩
      · rw [if_neg (fun y => z y.2), if_neg (by omega), if_neg (fun y => z y.2), if_neg (fun y => z y.2), if_neg (by omega)]; exact h1 p (by omega))
    exact ⟨I', L', r1, r2, ((FrI.st (by omega) (by omega)).trans (FrI.st (by omega) (by omega))).trans r3, r4⟩
theorem m_load {I : Nat → Nat → Int32} {L : Nat → Nat → Int64} {P : Pos} (hk : KOk P) {cc nn o : Nat} (hc : cc ≠ 0) (ho : o + 8 ≤ nn) (hnn : nn < 2 ^ 30) (hL : ∀ i, i < 8 → L cc (o + i) = lN (keyL P i)) :
    ∃ I' L', F_X6_load cc nn I L (nI o) = some (I', L') ∧ MRep I' L' P ∧ FrI I I' ∧ FrL L L' :=
  m_ld2 hk hc ho hnn hL 5 0 FU I L (by omega) (FU_gt (by omega)) (FrL.refl L) (fun p hp => absurd hp (Nat.not_lt_zero p))
