/-! ===== the second reading: a position as it keeps it ===== -/
/-- a column packed, the card at the bottom lowest -/
def pkT : List Nat → Nat
  | [] => 0
  | c :: l => pkT l + 16 ^ l.length * c
theorem pkT_lt {l : List Nat} (h : ∀ c, c ∈ l → c < 16) : pkT l < 16 ^ l.length := by
  induction l with
  | nil => decide
  | cons c l ih =>
    have h1 := ih (fun d hd => h d (List.mem_cons_of_mem _ hd))
    have h2 := h c (by simp)
    show pkT l + 16 ^ l.length * c < 16 ^ (l.length + 1)
    have h3 : 16 ^ l.length * c ≤ 16 ^ l.length * 15 := Nat.mul_le_mul_left _ (by omega)
    rw [Nat.pow_succ]
    omega
theorem pkT_lt64 {l : List Nat} (h : ∀ c, c ∈ l → c < 16) (hl : l.length ≤ 16) : pkT l < 2 ^ 64 := by
  have h1 := pkT_lt h
  have h2 : 16 ^ l.length ≤ 16 ^ 16 := Nat.pow_le_pow_right (by omega) hl
  have h3 : (16 : Nat) ^ 16 = 2 ^ 64 := by decide
  omega
theorem pkT_at {l : List Nat} (h : ∀ c, c ∈ l → c < 16) : ∀ {i : Nat}, i < l.length → pkT l / 16 ^ i % 16 = l.getD (l.length - 1 - i) 0 := by
  induction l with
  | nil => intro i hi; exact absurd hi (Nat.not_lt_zero i)
  | cons c l ih =>
    intro i hi
    have h1 := pkT_lt (fun d hd => h d (List.mem_cons_of_mem _ hd) : ∀ d, d ∈ l → d < 16)
    have h2 := h c (by simp)
    show (pkT l + 16 ^ l.length * c) / 16 ^ i % 16 = (c :: l).getD (l.length + 1 - 1 - i) 0
    rcases Nat.lt_or_ge i l.length with q | q
    · have e1 : 16 ^ l.length * c = 16 ^ i * (16 * (16 ^ (l.length - i - 1) * c)) := by
        rw [← Nat.mul_assoc 16, ← Nat.mul_assoc, ← Nat.pow_succ', ← Nat.pow_add]
        congr 2; omega
      rw [e1, Nat.add_mul_div_left _ _ (Nat.two_pow_pos 0 |> fun _ => Nat.pow_pos (by omega)), Nat.add_mul_mod_self_left, ih (fun d hd => h d (List.mem_cons_of_mem _ hd)) q]
      rw [show l.length + 1 - 1 - i = (l.length - 1 - i) + 1 by omega]; rfl
    · have hi2 : i < l.length + 1 := hi
      have e : i = l.length := by omega
      subst e
      rw [Nat.add_mul_div_left _ _ (Nat.pow_pos (by omega)), Nat.div_eq_of_lt h1, Nat.zero_add, Nat.mod_eq_of_lt h2]
      rw [show l.length + 1 - 1 - l.length = 0 by omega]; rfl
theorem pow16 (k : Nat) : 2 ^ (4 * k) = 16 ^ k := by rw [Nat.pow_mul]
/-- the numbers of the second reading, for a position -/
def MRep (I : Nat → Nat → Int32) (L : Nat → Nat → Int64) (P : Pos) : Prop :=
  (∀ p, p < 5 → L 0 p = lN (pkT (P.1 p)) ∧ I 3 p = nI (P.1 p).length ∧ I 4 p = nI (P.2.1 p)) ∧
  (∀ k, k < 2 → I 5 k = topI (P.1 (5 + k))) ∧ (∀ s, s < 4 → I 6 s = nI (P.2.2.1 s)) ∧
  (I 0 21 = nI (P.1 7).length ∧ ∀ i, i < (P.1 7).length → I 7 i = nI ((P.1 7).getD ((P.1 7).length - 1 - i) 0)) ∧
  (I 0 23 = nI (P.1 9).length ∧ ∀ i, i < (P.1 9).length → I 8 i = nI ((P.1 9).getD ((P.1 9).length - 1 - i) 0)) ∧
  I 0 24 = nI P.2.2.2
theorem shr_card {m i : Nat} (hm : m < 2 ^ 64) (hi : i < 16) : (((lN m).toUInt64 >>> ((nI 4 * nI i).toInt64.toUInt64 &&& Int64.toUInt64 63)).toInt64 &&& lN 15).toInt32 = nI (m / 16 ^ i % 16) := by
  rw [pk_mul, wb_shr hm (by omega), pow16, wb_mask (k := 4) (Nat.lt_of_le_of_lt (Nat.div_le_self _ _) hm) (by omega), lN_i]
theorem m_cardAt {I : Nat → Nat → Int32} {L : Nat → Nat → Int64} {P : Pos} (h : MRep I L P) (ho : PosOk P) {p i : Nat} (hp : p < 5) (hi : i < (P.1 p).length) : F_X6_cardAt I L (nI p) (nI i) = some (nI ((P.1 p).getD ((P.1 p).length - 1 - i) 0)) := by
  have hl := ho.len p
  unfold F_X6_cardAt
  rw [rdA_n _ hp (by omega), (h.1 p hp).1, shr_card (pkT_lt64 (ho.1 p) hl) (by omega), pkT_at (ho.1 p) hi]
theorem getD_lt {P : Pos} (ho : PosOk P) {p k : Nat} (hk : k < (P.1 p).length) : (P.1 p).getD k 0 < 16 ∧ (P.1 p).getD k 0 ∈ P.1 p := by
  rw [List.getD_eq_getElem?_getD, List.getElem?_eq_getElem hk]
  exact ⟨ho.1 p _ (List.getElem_mem hk), List.getElem_mem hk⟩
theorem m_suitOf {I : Nat → Nat → Int32} {L : Nat → Nat → Int64} {R : Nat → Nat} (hr : RR (I 1) R) {c : Nat} (hc : c < 16) : F_X6_suitOf I L (nI c) = some (nI (c / R 1)) := by
  have hR := hr.2
  unfold RulesOk at hR
  unfold F_X6_suitOf
  rw [rdA_n _ (by omega) (by omega), hr.1 1 (by omega), nz_n _ (by omega) (by omega), pk_div (by omega) (by omega) (by omega)]
theorem m_rankOf {I : Nat → Nat → Int32} {L : Nat → Nat → Int64} {R : Nat → Nat} (hr : RR (I 1) R) {c : Nat} (hc : c < 16) : F_X6_rankOf I L (nI c) = some (nI (c % R 1 + 1)) := by
  have hR := hr.2
  unfold RulesOk at hR
  unfold F_X6_rankOf
  rw [rdA_n _ (by omega) (by omega), hr.1 1 (by omega), nz_n _ (by omega) (by omega), pk_rem (by omega) (by omega) (by omega), nI_add]
theorem m_fits {I : Nat → Nat → Int32} {L : Nat → Nat → Int64} {R : Nat → Nat} (hr : RR (I 1) R) {c o : Nat} (hc : c < 16) (hd : o < 16) : F_X6_fits I L (nI c) (nI o) = some (bi (fitB R c o)) := by
  have hR := hr.2
  have hR2 := hr.2
  unfold RulesOk at hR
  have h1 := mod_lt1 hR2 c
  have h2 := mod_lt1 hR2 o
  have q1 : c / R 1 ≤ c := Nat.div_le_self _ _
  have q2 : o / R 1 ≤ o := Nat.div_le_self _ _
  have hb : ∀ b : Bool, F_X6_fits_b61 I L (nI c) (nI o) (bi b) = some (bi (b && decide (c % R 1 + 1 = o % R 1))) := by
    intro b
    unfold F_X6_fits_b61
    cases b with
    | false => rw [if_pos (show bi false = nI 0 from rfl), zb0]; rfl
    | true =>
      rw [if_neg (by rw [bi_eq0]; decide), m_rankOf hr hc, cal1_s, m_rankOf hr hd, cal1_s, pk_sub (by omega), zb1, zb0, some_bi]
      have e : (nI (c % R 1 + 1) = nI (o % R 1 + 1 - 1)) ↔ c % R 1 + 1 = o % R 1 := by rw [nI_eq (by omega) (by omega)]; omega
      simp only [e, Bool.true_and]
  unfold F_X6_fits
  rw [m_suitOf hr hc, cal1_s, m_suitOf hr hd, cal1_s, rdA_n _ (by omega) (by omega), hr.1 4 (by omega)]
  unfold fitB
  by_cases b0 : R 4 = 0
  · rw [if_pos (by rw [b0]), if_pos b0]
    by_cases e : c / R 1 = o / R 1
    · rw [if_pos (by rw [e])]; rw [show (nI 1 : Int32) = bi true from rfl, hb]; simp [e]
    · rw [if_neg (by rw [nI_eq (by omega) (by omega)]; exact e)]; rw [show (nI 0 : Int32) = bi false from rfl, hb]; simp [e]
  · rw [if_neg (by rw [nI_eq (by omega) (by omega)]; exact b0), if_neg b0, rdA_n _ (by omega) (by omega), hr.1 4 (by omega)]
    by_cases b2 : R 4 = 2
    · rw [if_pos (by rw [b2]), show (nI 1 : Int32) = bi true from rfl, hb]
      simp [b2]
    · have b1 : R 4 = 1 := by omega
      rw [if_neg (by rw [nI_eq (by omega) (by omega)]; exact b2), nz_n _ (by omega) (by omega), nz_n _ (by omega) (by omega), if_pos b1, pk_rem (by omega) (by omega) (by omega), pk_rem (by omega) (by omega) (by omega)]
      have z1 := Nat.mod_lt (c / R 1) (show 0 < 2 by omega)
      have z2 := Nat.mod_lt (o / R 1) (show 0 < 2 by omega)
      by_cases e : c / R 1 % 2 = o / R 1 % 2
      · rw [if_pos (by rw [e]), show (nI 0 : Int32) = bi false from rfl, hb]; simp [e]
      · rw [if_neg (by rw [nI_eq (by omega) (by omega)]; exact e), show (nI 1 : Int32) = bi true from rfl, hb]; simp [e]
