/-! ===== the class's shelf: positions packed ===== -/
def pkN (z : Nat → Nat) (h a : Nat) : Nat → Nat
  | 0 => h
  | n + 1 => pkN z h a n * 32 + z (a + n)
theorem pkN_lt {z : Nat → Nat} {h a m : Nat} (hz : ∀ i, z i < 32) (hh : h < m) : ∀ n, pkN z h a n < m * 32 ^ n
  | 0 => by simpa [pkN] using hh
  | n + 1 => by
    have h1 := pkN_lt (a := a) hz hh n
    have h2 := hz (a + n)
    show pkN z h a n * 32 + z (a + n) < m * 32 ^ (n + 1)
    rw [Nat.pow_succ, ← Nat.mul_assoc]
    omega
theorem pkN_inj {z z' : Nat → Nat} {h h' a : Nat} (hz : ∀ i, z i < 32) (hz' : ∀ i, z' i < 32) : ∀ n, pkN z h a n = pkN z' h' a n → h = h' ∧ ∀ i, i < n → z (a + i) = z' (a + i)
  | 0, e => ⟨e, fun i hi => absurd hi (Nat.not_lt_zero i)⟩
  | n + 1, e => by
    have h1 := hz (a + n)
    have h2 := hz' (a + n)
    have e1 : pkN z h a n * 32 + z (a + n) = pkN z' h' a n * 32 + z' (a + n) := e
    have e2 : z (a + n) = z' (a + n) := by omega
    obtain ⟨i1, i2⟩ := pkN_inj (h := h) (h' := h') (a := a) hz hz' n (by omega)
    refine ⟨i1, fun i hi => ?_⟩
    rcases Nat.lt_or_ge i n with q | q
    · exact i2 i q
    · rw [show i = n by omega]; exact e2
theorem pkN_congr {z z' : Nat → Nat} {h a : Nat} : ∀ {n : Nat}, (∀ i, i < n → z (a + i) = z' (a + i)) → pkN z h a n = pkN z' h a n
  | 0, _ => rfl
  | n + 1, e => by
    show pkN z h a n * 32 + z (a + n) = pkN z' h a n * 32 + z' (a + n)
    rw [pkN_congr (fun i hi => e i (by omega)), e n (by omega)]
theorem pack_step {v x : Nat} (hv : v * 32 + x < 2 ^ 62) (hx : x < 32) : (lN v <<< ((nI 5).toInt64 &&& 63)) ||| (nI x).toInt64 = lN (v * 32 + x) := by
  rw [wb_shl v (show 5 < 64 by omega), nI_l (by omega)]
  have := fb_or_sumL (k := 5) v (show x < 2 ^ 5 by omega)
  rw [Nat.mul_comm] at this
  exact this
theorem s_packed_L {T : Nat → Nat → Int32} {z : Nat → Nat} {h a e : Nat} (hz : ∀ i, z i < 32) (hT : ∀ i, i < 16 → T 1 i = nI (z i)) (he : e ≤ 16) (hh : h < 2 ^ 20) (hae : a + 8 = e) : ∀ (j k n : Nat), k + j = 8 → j < n → F_X4_packed_L11 T n (nI e) (lN (pkN z h a k)) (nI (a + k)) = some (lN (pkN z h a 8)) := by
  intro j
  induction j with
  | zero =>
    intro k n hk hn
    obtain ⟨n, rfl⟩ : ∃ m, n = m + 1 := ⟨n - 1, by omega⟩
    show F_X4_packed_s11 T (F_X4_packed_L11 T n) _ _ _ = _
    unfold F_X4_packed_s11
    rw [if_pos (nI_le (by omega) (by omega)), show k = 8 by omega]
  | succ j ih =>
    intro k n hk hn
    obtain ⟨n, rfl⟩ : ∃ m, n = m + 1 := ⟨n - 1, by omega⟩
    show F_X4_packed_s11 T (F_X4_packed_L11 T n) _ _ _ = _
    unfold F_X4_packed_s11
    have h1 := pkN_lt (a := a) hz hh k
    have h2 : 32 ^ k ≤ 32 ^ 7 := Nat.pow_le_pow_right (by omega) (by omega)
    have h3 := hz (a + k)
    have h4 : pkN z h a k < 2 ^ 20 * 32 ^ 7 := Nat.lt_of_lt_of_le h1 (Nat.mul_le_mul_left _ h2)
    rw [if_neg (nI_ge (by omega) (by omega)), if_neg (nI_ge (by omega) (by omega)), rdA_n _ (by omega) (by omega), hT _ (by omega), pack_step (by omega) h3, nI_add]
    exact ih (k + 1) n (by omega) (by omega)
theorem s_packed {T : Nat → Nat → Int32} {z : Nat → Nat} {h a e : Nat} (hz : ∀ i, z i < 32) (hT : ∀ i, i < 16 → T 1 i = nI (z i)) (he : e ≤ 16) (hh : h < 2 ^ 20) (hae : a + 8 = e) : F_X4_packed T (nI h) (nI a) (nI e) = some (lN (pkN z h a 8)) := by
  unfold F_X4_packed
  rw [nI_l (by omega), if_neg (nI_nlt (by omega) (by omega))]
  exact s_packed_L hz hT he hh hae 8 0 FU (by omega) (FU_gt (by omega))
def topN (l : List Nat) : Nat := match l with
  | [] => 0
  | c :: _ => c + 1
theorem topN_I {l : List Nat} (h : ∀ c ∈ l, c < 16) : topI l + nI 1 = nI (topN l) ∧ topN l < 32 ∧ nI (topN l) - nI 1 = topI l := by
  cases l with
  | nil => exact ⟨by decide, by decide, by decide⟩
  | cons c r =>
    have := h c (by simp)
    exact ⟨nI_add c 1, by show c + 1 < 32; omega, by show nI (c + 1) - nI 1 = nI c; rw [pk_sub (by omega)]; rfl⟩
theorem s_packedTops_L {T : Nat → Nat → Int32} {z : Nat → Nat} (hz : ∀ i, z i < 32) (hT : ∀ i, i < 10 → T 2 i + nI 1 = nI (z i)) : ∀ (j k n : Nat), k + j = 10 → j < n → F_X4_packedTops_L4 T n (lN (pkN z 0 0 k)) (nI k) = some (lN (pkN z 0 0 10)) := by
  intro j
  induction j with
  | zero =>
    intro k n hk hn
    obtain ⟨n, rfl⟩ : ∃ m, n = m + 1 := ⟨n - 1, by omega⟩
    show F_X4_packedTops_s4 T (F_X4_packedTops_L4 T n) _ _ = _
    unfold F_X4_packedTops_s4
    rw [if_pos (nI_le (by omega) (by omega)), show k = 10 by omega]
  | succ j ih =>
    intro k n hk hn
    obtain ⟨n, rfl⟩ : ∃ m, n = m + 1 := ⟨n - 1, by omega⟩
    show F_X4_packedTops_s4 T (F_X4_packedTops_L4 T n) _ _ = _
    unfold F_X4_packedTops_s4
    have h1 := pkN_lt (a := 0) hz (show 0 < 1 by omega) k
    have h2 : 32 ^ k ≤ 32 ^ 9 := Nat.pow_le_pow_right (by omega) (by omega)
    have h3 := hz k
    have h5 : pkN z 0 0 (k + 1) = pkN z 0 0 k * 32 + z k := by show _ * 32 + z (0 + k) = _; rw [Nat.zero_add]
    rw [if_neg (nI_ge (by omega) (by omega)), rdA_n _ (by omega) (by omega), hT _ (by omega), pack_step (by omega) h3, nI_add, ← h5]
    exact ih (k + 1) n (by omega) (by omega)
theorem s_packedTops {T : Nat → Nat → Int32} {z : Nat → Nat} (hz : ∀ i, z i < 32) (hT : ∀ i, i < 10 → T 2 i + nI 1 = nI (z i)) : F_X4_packedTops T = some (lN (pkN z 0 0 10)) := by
  unfold F_X4_packedTops
  exact s_packedTops_L hz hT 10 0 FU (by omega) (FU_gt (by omega))
/-- what a table holds of a position, as a row of three numbers -/
def mkN (b : Nat → Bool) : Nat → Nat
  | 0 => 0
  | n + 1 => mkN b n ||| if b n then 2 ^ n else 0
theorem mkN_lt (b : Nat → Bool) : ∀ n, mkN b n < 2 ^ n
  | 0 => by show 0 < 1; omega
  | n + 1 => by
    have h := mkN_lt b n
    show mkN b n ||| _ < 2 ^ (n + 1)
    refine Nat.or_lt_two_pow (Nat.lt_of_lt_of_le h (Nat.pow_le_pow_right (by omega) (by omega))) ?_
    split
    · exact Nat.pow_lt_pow_right (by omega) (by omega)
    · exact Nat.pow_pos (by omega)
theorem mkN_bit (b : Nat → Bool) (c : Nat) : ∀ n, (mkN b n).testBit c = (decide (c < n) && b c)
  | 0 => by simp [mkN]
  | n + 1 => by
    show (mkN b n ||| _).testBit c = _
    rw [Nat.testBit_or, mkN_bit b c n]
    by_cases q : b n = true
    · rw [if_pos q, Nat.testBit_two_pow]
      by_cases e : n = c
      · subst e; simp [q]
      · have : (c < n + 1) ↔ (c < n) := by omega
        simp [e, this]
    · rw [if_neg q, Nat.zero_testBit, Bool.or_false]
      by_cases e : n = c
      · subst e; simp only [Bool.not_eq_true] at q; simp [q]
      · have : (c < n + 1) ↔ (c < n) := by omega
        simp [this]
def mkP (P : Pos) : Nat := mkN (hidB P) 16
theorem mkP_of {P : Pos} {m : Nat} (hm : m < 65536) (h : ∀ c, c < 16 → m.testBit c = hidB P c) : m = mkP P := by
  apply Nat.eq_of_testBit_eq
  intro i
  unfold mkP
  rw [mkN_bit]
  by_cases q : i < 16
  · rw [h i q]; simp [q]
  · rw [Nat.testBit_lt_two_pow (Nat.lt_of_lt_of_le hm (show 65536 ≤ 2 ^ i from Nat.pow_le_pow_right (n := 2) (by omega) (show 16 ≤ i by omega)))]
    simp [q]
theorem TRep.mk {T : Nat → Nat → Int32} {P : Pos} (h : TRep T P) : T 0 5 = nI (mkP P) := by
  obtain ⟨m, h1, h2, h3⟩ := h.2.2.1
  rw [h2, mkP_of h1 h3]
theorem mkP_lt (P : Pos) : mkP P < 65536 := mkN_lt _ 16
def loN (P : Pos) : Nat := pkN (onN P) (mkP P) 0 8
def hiN (P : Pos) : Nat := pkN (onN P) P.2.2.2 8 8
def plN (P : Pos) : Nat := pkN (fun p => topN (P.1 p)) 0 0 10
theorem onN_lt32 {P : Pos} (ho : PosOk P) (c : Nat) : onN P c < 32 := by have := onN_le ho c; omega
/-- row i of a shelf holds the position -/
def SRow (S : Nat → Nat → Int64) (i : Nat) (P : Pos) : Prop := S 0 i = lN (loN P) ∧ S 1 i = lN (hiN P) ∧ S 2 i = lN (plN P)
theorem s_isRow {S : Nat → Nat → Int64} {n i : Nat} (hn : n < 2 ^ 31) (hi : i < n) : F_X3_isRow S n (nI i) = some (bi true) := by
  unfold F_X3_isRow
  rw [if_neg (nI_nlt (by omega) (by omega)), if_neg (nI_ge hi hn), if_neg (nI_ge hi hn), if_neg (nI_ge hi hn)]; rfl
theorem s_keep {T : Nat → Nat → Int32} {S : Nat → Nat → Int64} {P : Pos} (h : TRep T P) (ho : PosOk P) {n i : Nat} (hn : n < 2 ^ 31) (hi : i < n) : ∃ S', F_X3_keep T n S (nI i) = some S' ∧ SRow S' i P ∧ ∀ k j, j ≠ i → S' k j = S k j := by
  have htu := h.2.2.2.2
  have hm := mkP_lt P
  have htops : ∀ p, p < 10 → T 2 p + nI 1 = nI (topN (P.1 p)) := fun p hp => by rw [h.1 p hp]; exact (topN_I (ho.1 p)).1
  unfold F_X3_keep
  rw [s_isRow hn hi, cal1_s, if_neg (by rw [bi_eq0]; simp), h.mk, s_packed (fun i => onN_lt32 ho i) h.2.1 (by omega) (by omega) (by omega), cal1_s, wrJ_n _ hi (by omega), h.2.2.2.1, s_packed (fun i => onN_lt32 ho i) h.2.1 (by omega) (by omega) (by omega), cal1_s, wrJ_n _ hi (by omega), s_packedTops (fun p => (topN_I (ho.1 p)).2.1) htops, cal1_s, wrJ_n _ hi (by omega)]
  refine ⟨_, rfl, ⟨?_, ?_, ?_⟩, ?_⟩
  · simp [stJ_s, loN]
  · simp [stJ_s, hiN]
  · simp [stJ_s, plN]
  · intro k j hj; simp [stJ_s, hj]
