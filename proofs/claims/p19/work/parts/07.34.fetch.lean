/-! ===== the class's shelf: fetch, areSame, bucketOf ===== -/
theorem dec_lt {a : Nat} (h : a < 2 ^ 31) : nI a + (-1) < nI a := by
  cases a with
  | zero => decide
  | succ a => rw [pk_m1]; exact nI_lt (by omega) h
theorem unpack_mask (v z : Nat) (hz : z < 32) : (lN (v * 32 + z) &&& lN 31).toInt32 = nI z := by
  have := fb_maskL (v * 32 + z) 5
  rw [show (2 : Nat) ^ 5 - 1 = 31 by decide, show (v * 32 + z) % 2 ^ 5 = z by omega] at this
  rw [this, lN_i]
theorem unpack_shift {v z : Nat} (hz : z < 32) (h : v * 32 + z < 2 ^ 62) : lN (v * 32 + z) >>> ((nI 5).toInt64 &&& 63) = lN v := by
  have := pf_shr (a := v * 32 + z) (d := 5) (D := (nI 5).toInt64 &&& 63) (by decide) h
  rw [show (v * 32 + z) / 2 ^ 5 = v by omega] at this
  exact this
theorem s_unpacked_L {z : Nat → Nat} {h a : Nat} (hz : ∀ i, z i < 32) (ha : a + 8 ≤ 16) (hh : h < 2 ^ 20) : ∀ (k n : Nat) (T : Nat → Nat → Int32), k < 8 → k + 1 < n → ∃ T', F_X4_unpacked_L17 n T (nI a) (lN (pkN z h a (k + 1))) (nI (a + k)) = some (nI h, T') ∧ (∀ i, a ≤ i → i ≤ a + k → T' 1 i = nI (z i)) ∧ (∀ c i, c ≠ 1 ∨ i < a ∨ a + k < i → T' c i = T c i) := by
  intro k
  induction k with
  | zero =>
    intro n T hk hn
    obtain ⟨n, rfl⟩ : ∃ m, n = m + 2 := ⟨n - 2, by omega⟩
    have e : pkN z h a (0 + 1) = h * 32 + z a := rfl
    have h3 := hz a
    rw [e]
    simp only [Nat.add_zero]
    show ∃ T', F_X4_unpacked_s17 (F_X4_unpacked_L17 (n + 1)) T _ _ _ = _ ∧ _
    unfold F_X4_unpacked_s17
    rw [if_neg (nI_nlt (by omega) (by omega)), if_neg (nI_nlt (by omega) (by omega)), wrA_n _ (by omega) (by omega), unpack_mask _ _ h3, unpack_shift h3 (by omega)]
    show ∃ T', F_X4_unpacked_s17 (F_X4_unpacked_L17 n) _ _ _ _ = _ ∧ _
    unfold F_X4_unpacked_s17
    rw [if_pos (dec_lt (by omega)), lN_i]
    refine ⟨_, rfl, ?_, ?_⟩
    · intro i h1 h2; rw [show i = a by omega]; simp [st2_s]
    · intro c i hc; rw [st2_s, if_neg (by omega)]
  | succ k ih =>
    intro n T hk hn
    obtain ⟨n, rfl⟩ : ∃ m, n = m + 1 := ⟨n - 1, by omega⟩
    have e : pkN z h a (k + 1 + 1) = pkN z h a (k + 1) * 32 + z (a + (k + 1)) := rfl
    have h3 := hz (a + (k + 1))
    have h1 := pkN_lt (a := a) hz hh (k + 1)
    have h2 : 32 ^ (k + 1) ≤ 32 ^ 7 := Nat.pow_le_pow_right (by omega) (by omega)
    have h4 : pkN z h a (k + 1) < 2 ^ 20 * 32 ^ 7 := Nat.lt_of_lt_of_le h1 (Nat.mul_le_mul_left _ h2)
    rw [e]
    show ∃ T', F_X4_unpacked_s17 (F_X4_unpacked_L17 n) T _ _ _ = _ ∧ _
    unfold F_X4_unpacked_s17
    rw [if_neg (nI_nlt (by omega) (by omega)), if_neg (nI_nlt (by omega) (by omega)), wrA_n _ (by omega) (by omega), unpack_mask _ _ h3, unpack_shift h3 (by omega), show a + (k + 1) = a + k + 1 by omega, pk_m1]
    obtain ⟨T', e1, e2, e3⟩ := ih n (st2 T 1 (a + k + 1) (nI (z (a + k + 1)))) (by omega) (by omega)
    refine ⟨T', e1, ?_, ?_⟩
    · intro i h1 h2
      rcases Nat.lt_or_ge i (a + k + 1) with q | q
      · exact e2 i h1 (by omega)
      · rw [show i = a + k + 1 by omega, e3 _ _ (by omega)]; simp [st2_s]
    · intro c i hc; rw [e3 c i (by omega), st2_s, if_neg (by omega)]
theorem s_unpacked {z : Nat → Nat} {h a e : Nat} (hz : ∀ i, z i < 32) (he : e ≤ 16) (hae : a + 8 = e) (hh : h < 2 ^ 20) (T : Nat → Nat → Int32) : ∃ T', F_X4_unpacked T (lN (pkN z h a 8)) (nI a) (nI e) = some (nI h, T') ∧ (∀ i, a ≤ i → i < e → T' 1 i = nI (z i)) ∧ (∀ c i, c ≠ 1 ∨ i < a ∨ e ≤ i → T' c i = T c i) := by
  obtain ⟨T', e1, e2, e3⟩ := s_unpacked_L hz (by omega : a + 8 ≤ 16) hh 7 FU T (by omega) (FU_gt (by omega))
  refine ⟨T', ?_, fun i h1 h2 => e2 i h1 (by omega), fun c i hc => e3 c i (by omega)⟩
  unfold F_X4_unpacked
  rw [if_neg (nI_nlt (by omega) (by omega)), pk_sub (by omega), show e - 1 = a + 7 by omega]
  exact e1
theorem s_unpackTops_L {z : Nat → Nat} (hz : ∀ i, z i < 32) : ∀ (k n : Nat) (T : Nat → Nat → Int32), k < 10 → k + 1 < n → ∃ T', F_X4_unpackTops_L11 n T (lN (pkN z 0 0 (k + 1))) (nI k) = some T' ∧ (∀ i, i ≤ k → T' 2 i = nI (z i) - nI 1) ∧ (∀ c i, c ≠ 2 ∨ k < i → T' c i = T c i) := by
  intro k
  induction k with
  | zero =>
    intro n T hk hn
    obtain ⟨n, rfl⟩ : ∃ m, n = m + 2 := ⟨n - 2, by omega⟩
    have e : pkN z 0 0 (0 + 1) = 0 * 32 + z 0 := rfl
    have h3 := hz 0
    rw [e]
    show ∃ T', F_X4_unpackTops_s11 (F_X4_unpackTops_L11 (n + 1)) T _ _ = _ ∧ _
    unfold F_X4_unpackTops_s11
    rw [if_neg (nI_nlt (by omega) (by omega)), wrA_n _ (by omega) (by omega), unpack_mask _ _ h3, unpack_shift h3 (by omega)]
    show ∃ T', F_X4_unpackTops_s11 (F_X4_unpackTops_L11 n) _ _ _ = _ ∧ _
    unfold F_X4_unpackTops_s11
    rw [if_pos (dec_lt (by omega))]
    refine ⟨_, rfl, ?_, ?_⟩
    · intro i h1; rw [show i = 0 by omega]; simp [st2_s]
    · intro c i hc; rw [st2_s, if_neg (by omega)]
  | succ k ih =>
    intro n T hk hn
    obtain ⟨n, rfl⟩ : ∃ m, n = m + 1 := ⟨n - 1, by omega⟩
    have e : pkN z 0 0 (k + 1 + 1) = pkN z 0 0 (k + 1) * 32 + z (k + 1) := by show _ * 32 + z (0 + (k + 1)) = _; rw [Nat.zero_add]
    have h3 := hz (k + 1)
    have h1 := pkN_lt (a := 0) hz (show 0 < 1 by omega) (k + 1)
    have h2 : 32 ^ (k + 1) ≤ 32 ^ 9 := Nat.pow_le_pow_right (by omega) (by omega)
    rw [e]
    show ∃ T', F_X4_unpackTops_s11 (F_X4_unpackTops_L11 n) T _ _ = _ ∧ _
    unfold F_X4_unpackTops_s11
    rw [if_neg (nI_nlt (by omega) (by omega)), wrA_n _ (by omega) (by omega), unpack_mask _ _ h3, unpack_shift h3 (by omega), pk_m1]
    obtain ⟨T', e1, e2, e3⟩ := ih n (st2 T 2 (k + 1) (nI (z (k + 1)) - nI 1)) (by omega) (by omega)
    refine ⟨T', e1, ?_, ?_⟩
    · intro i h1
      rcases Nat.lt_or_ge i (k + 1) with q | q
      · exact e2 i (by omega)
      · rw [show i = k + 1 by omega, e3 _ _ (by omega)]; simp [st2_s]
    · intro c i hc; rw [e3 c i (by omega), st2_s, if_neg (by omega)]
theorem s_fetch {T : Nat → Nat → Int32} {S : Nat → Nat → Int64} {P : Pos} (ho : PosOk P) (htu : P.2.2.2 ≤ 2) {n i : Nat} (hn : n < 2 ^ 31) (hi : i < n) (h : SRow S i P) : ∃ T', F_X3_fetch S n T (nI i) = some T' ∧ TRep T' P := by
  have hm := mkP_lt P
  have hz : ∀ c, onN P c < 32 := fun c => onN_lt32 ho c
  obtain ⟨h0, h1, h2⟩ := h
  unfold F_X3_fetch
  obtain ⟨T1, a1, a2, a3⟩ := s_unpacked (a := 0) (e := 8) hz (by omega) (by omega) (show mkP P < 2 ^ 20 by omega) T
  rw [s_isRow hn hi, cal1_s, if_neg (by rw [bi_eq0]; simp), rdA_n _ hi (by omega), h0]
  unfold loN
  rw [a1, cal2_s, bnd_s, rdA_n _ hi (by omega), h1]
  unfold hiN
  obtain ⟨T2, b1, b2, b3⟩ := s_unpacked (a := 8) (e := 16) hz (by omega) (by omega) (show P.2.2.2 < 2 ^ 20 by omega) (st2 T1 0 5 (nI (mkP P)))
  rw [b1, cal2_s, bnd_s, rdA_n _ hi (by omega), h2]
  unfold plN
  obtain ⟨T3, c1, c2, c3⟩ := s_unpackTops_L (z := fun p => topN (P.1 p)) (fun p => (topN_I (ho.1 p)).2.1) 9 FU (st2 T2 0 6 (nI P.2.2.2)) (by omega) (FU_gt (by omega))
  have e : F_X4_unpackTops (st2 T2 0 6 (nI P.2.2.2)) (lN (pkN (fun p => topN (P.1 p)) 0 0 10)) = some T3 := by
    unfold F_X4_unpackTops
    rw [pk_sub (by omega)]; exact c1
  rw [e, cal1_s]
  refine ⟨T3, rfl, ?_, ?_, ?_, ?_, htu⟩
  · intro p hp; rw [c2 p (by omega)]; exact (topN_I (ho.1 p)).2.2
  · intro c hc
    rw [c3 1 c (by omega), st2_s, if_neg (by omega)]
    rcases Nat.lt_or_ge c 8 with q | q
    · rw [b3 1 c (by omega), st2_s, if_neg (by omega)]; exact a2 c (by omega) q
    · exact b2 c q hc
  · refine ⟨mkP P, hm, ?_, fun c hc => by unfold mkP; rw [mkN_bit]; simp [hc]⟩
    rw [c3 0 5 (by omega), st2_s, if_neg (by omega), b3 0 5 (by omega)]; simp [st2_s]
  · rw [c3 0 6 (by omega)]; simp [st2_s]
/-- the same, by exchanging columns, and cells, as the class tells it -/
def keyC (P Q : Pos) : Prop := loN P = loN Q ∧ hiN P = hiN Q
theorem keyC_iff {P Q : Pos} (hP : PosOk P) (hQ : PosOk Q) : keyC P Q ↔ (∀ c, c < 16 → onN P c = onN Q c) ∧ (∀ c, c < 16 → hidB P c = hidB Q c) ∧ P.2.2.2 = Q.2.2.2 := by
  constructor
  · rintro ⟨h1, h2⟩
    obtain ⟨a1, a2⟩ := pkN_inj (fun c => onN_lt32 hP c) (fun c => onN_lt32 hQ c) 8 h1
    obtain ⟨b1, b2⟩ := pkN_inj (fun c => onN_lt32 hP c) (fun c => onN_lt32 hQ c) 8 h2
    refine ⟨fun c hc => ?_, fun c hc => ?_, b1⟩
    · rcases Nat.lt_or_ge c 8 with q | q
      · have := a2 c q; rwa [Nat.zero_add] at this
      · have := b2 (c - 8) (by omega); rwa [show 8 + (c - 8) = c by omega] at this
    · have h3 := congrArg (fun m => Nat.testBit m c) a1
      unfold mkP at h3
      simpa [mkN_bit, hc] using h3
  · rintro ⟨h1, h2, h3⟩
    have e : mkP P = mkP Q := by
      apply Nat.eq_of_testBit_eq
      intro i
      unfold mkP
      rw [mkN_bit, mkN_bit]
      by_cases q : i < 16
      · rw [h2 i q]
      · simp [q]
    unfold keyC loN hiN
    rw [e, h3]
    exact ⟨pkN_congr (fun i hi => h1 _ (by omega)), pkN_congr (fun i hi => h1 _ (by omega))⟩
