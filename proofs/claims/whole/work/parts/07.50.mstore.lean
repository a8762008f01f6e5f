/-! ===== the second reading: a position stored ===== -/
theorem deal_inv {R : Nat → Nat} (hR : RulesOk R) {mc x : Nat} (hm : mc < 2) : LayInv R (dealP R mc x) (cardsA R mc x) := by
  obtain ⟨D, -, hD⟩ := s_draw (mc := mc) (x := x) hm hR (fun _ _ => 0)
  obtain ⟨T, -, -, h⟩ := s_lay (r := fun k => nI (R k)) ⟨fun _ _ => rfl, hR⟩ hD (fun _ _ => 0)
  exact h
def sumB (b : Nat) (d : Nat → Nat) : Nat → Nat
  | 0 => 0
  | k + 1 => sumB b d k + d k * 2 ^ (b * k)
theorem sumB_lt {b : Nat} {d : Nat → Nat} : ∀ {k : Nat}, (∀ i, i < k → d i < 2 ^ b) → sumB b d k < 2 ^ (b * k)
  | 0, _ => by simp [sumB]
  | k + 1, h => by
    have h1 := sumB_lt (d := d) (k := k) (fun i hi => h i (by omega))
    have h2 := h k (by omega)
    have h3 : (d k + 1) * 2 ^ (b * k) ≤ 2 ^ b * 2 ^ (b * k) := Nat.mul_le_mul_right _ (by omega)
    rw [← Nat.pow_add, Nat.add_mul, show b + b * k = b * (k + 1) by rw [Nat.mul_add, Nat.mul_one, Nat.add_comm]] at h3
    show sumB b d k + d k * 2 ^ (b * k) < _
    omega
theorem sumB_at {b : Nat} {d : Nat → Nat} : ∀ {k i : Nat}, (∀ i, i < k → d i < 2 ^ b) → i < k → sumB b d k / 2 ^ (b * i) % 2 ^ b = d i
  | k + 1, i, h, hi => by
    have h1 := sumB_lt (d := d) (k := k) (fun i hi => h i (by omega))
    show (sumB b d k + d k * 2 ^ (b * k)) / 2 ^ (b * i) % 2 ^ b = d i
    rcases Nat.lt_or_ge i k with q | q
    · have e : d k * 2 ^ (b * k) = 2 ^ (b * i) * (2 ^ b * (d k * 2 ^ (b * (k - i - 1)))) := by
        rw [← Nat.mul_assoc, ← Nat.pow_add, Nat.mul_comm, Nat.mul_comm (d k), ← Nat.mul_assoc, ← Nat.pow_add]
        congr 2
        obtain ⟨m, rfl⟩ : ∃ m, k = i + 1 + m := ⟨k - i - 1, by omega⟩
        rw [show i + 1 + m - i - 1 = m by omega, Nat.mul_add, Nat.mul_add, Nat.mul_one]
      rw [e, Nat.add_mul_div_left _ _ (Nat.two_pow_pos _), Nat.add_mul_mod_self_left]
      exact sumB_at (fun i hi => h i (by omega)) q
    · have e : i = k := by omega
      subst e
      rw [Nat.mul_comm (d i), Nat.add_mul_div_left _ _ (Nat.two_pow_pos _), Nat.div_eq_of_lt h1, Nat.zero_add, Nat.mod_eq_of_lt (h i hi)]
theorem sumB_or {b : Nat} {d : Nat → Nat} {k : Nat} (h : ∀ i, i < k → d i < 2 ^ b) : sumB b d k ||| d k * 2 ^ (b * k) = sumB b d (k + 1) := by
  rw [Nat.or_comm, Nat.mul_comm, ← Nat.two_pow_add_eq_or_of_lt (sumB_lt h)]
  show _ = sumB b d k + d k * 2 ^ (b * k)
  rw [Nat.add_comm, Nat.mul_comm]
theorem or_add {a b n : Nat} (h : a < 2 ^ n) : a ||| b * 2 ^ n = a + b * 2 ^ n := by
  rw [Nat.or_comm, Nat.mul_comm, ← Nat.two_pow_add_eq_or_of_lt h, Nat.add_comm]
theorem or_mul (a b n : Nat) : a * 2 ^ n ||| b * 2 ^ n = (a ||| b) * 2 ^ n := by
  rw [← Nat.shiftLeft_eq, ← Nat.shiftLeft_eq, ← Nat.shiftLeft_eq, Nat.shiftLeft_or_distrib]
theorem sumB_congr {b : Nat} {d e : Nat → Nat} : ∀ {k : Nat}, (∀ i, i < k → d i = e i) → sumB b d k = sumB b e k
  | 0, _ => rfl
  | k + 1, h => by
    show sumB b d k + d k * _ = sumB b e k + e k * _
    rw [sumB_congr (fun i hi => h i (by omega)), h k (by omega)]
/-- the eight numbers of a position -/
def botN (l : List Nat) (i : Nat) : Nat := if i < l.length then l.getD (l.length - 1 - i) 0 else 0
def hgt (P : Pos) (p : Nat) : Nat := (P.1 p).length + P.2.1 p * 32
def w6 (P : Pos) (s : Nat) : Nat := topN (P.1 5) + topN (P.1 6) * 2 ^ 5 + P.2.2.2 * 2 ^ 10 + (P.1 7).length * 2 ^ 12 + (P.1 9).length * 2 ^ 16 + sumB 3 P.2.2.1 s * 2 ^ 20
def w7 (P : Pos) (k : Nat) : Nat := sumB 4 (botN (P.1 7)) k + sumB 4 (botN (P.1 9)) k * 2 ^ 32
def keyL (P : Pos) (k : Nat) : Nat := if k < 5 then pkT (P.1 k) else if k = 5 then sumB 10 (hgt P) 5 else if k = 6 then w6 P 4 else w7 P 8
/-- what the words need of a position -/
def KOk (P : Pos) : Prop := PosOk P ∧ (∀ k, k < 2 → (P.1 (5 + k)).length ≤ 1) ∧ (∀ s, P.2.2.1 s < 8) ∧ (P.1 7).length + (P.1 9).length ≤ 8 ∧ P.2.2.2 < 4
theorem WF.kok {R : Nat → Nat} {P : Pos} (w : WF R P) (hR : RulesOk R) : KOk P := by
  unfold RulesOk at hR
  have h1 := w.2.2.2.2.2.2.2
  exact ⟨w.1, fun k hk => (w.2.2.1 k hk).1, fun s => by have := w.2.2.2.2.2.1 s; omega, by omega, by omega⟩
theorem hgt_lt {P : Pos} (h : KOk P) (p : Nat) : hgt P p < 2 ^ 10 := by
  have h1 := h.1.len p
  have h2 := h.1.2.2.2.2.1 p
  unfold hgt; omega
theorem botN_lt {P : Pos} (h : KOk P) (p i : Nat) : botN (P.1 p) i < 2 ^ 4 := by
  unfold botN
  split
  · exact (getD_lt h.1 (by omega)).1
  · exact Nat.two_pow_pos 4
theorem topN_lt {P : Pos} (h : KOk P) (p : Nat) : topN (P.1 p) < 32 := by
  have := h.1.1 p
  unfold topN
  cases e : P.1 p with
  | nil => decide
  | cons c l => have := this c (by rw [e]; simp); dsimp only; omega
theorem topI_64 {l : List Nat} (h : ∀ c, c ∈ l → c < 16) : (topI l).toInt64 + lN 1 = lN (topN l) := by
  cases l with
  | nil => decide
  | cons c r =>
    have := h c (by simp)
    show (nI c).toInt64 + lN 1 = lN (c + 1)
    rw [nI_l (by omega), lN_add]
theorem or_shuf (A B C D : Nat) : ((A ||| B) ||| C) ||| D = (A ||| C) ||| (B ||| D) := by
  rw [Nat.or_assoc A B C, Nat.or_comm B C, ← Nat.or_assoc A C B, Nat.or_assoc (A ||| C) B D]
theorem w7_step {P : Pos} (h : KOk P) {k : Nat} (hk : k < 8) : (w7 P k ||| botN (P.1 7) k * 2 ^ (4 * k)) ||| botN (P.1 9) k * 2 ^ (32 + 4 * k) = w7 P (k + 1) := by
  have a1 := sumB_lt (b := 4) (d := botN (P.1 7)) (k := k) (fun i _ => botN_lt h 7 i)
  have a2 := sumB_lt (b := 4) (d := botN (P.1 7)) (k := k + 1) (fun i _ => botN_lt h 7 i)
  have p1 : 2 ^ (4 * k) ≤ 2 ^ 32 := Nat.pow_le_pow_right (by omega) (by omega)
  have p2 : 2 ^ (4 * (k + 1)) ≤ 2 ^ 32 := Nat.pow_le_pow_right (by omega) (by omega)
  unfold w7
  rw [← or_add (Nat.lt_of_lt_of_le a1 p1), ← or_add (Nat.lt_of_lt_of_le a2 p2), ← sumB_or (d := botN (P.1 7)) (fun i _ => botN_lt h 7 i), ← sumB_or (d := botN (P.1 9)) (fun i _ => botN_lt h 9 i), Nat.add_comm 32, Nat.pow_add, ← Nat.mul_assoc, ← or_mul]
  rw [or_shuf]
theorem w6_0 {P : Pos} (h : KOk P) : topN (P.1 5) ||| topN (P.1 6) * 2 ^ 5 ||| P.2.2.2 * 2 ^ 10 ||| (P.1 7).length * 2 ^ 12 ||| (P.1 9).length * 2 ^ 16 = w6 P 0 ∧ w6 P 0 < 2 ^ 20 := by
  have t5 := topN_lt h 5
  have t6 := topN_lt h 6
  have h1 := h.2.2.2.1
  have h2 := h.2.2.2.2
  unfold w6
  have e1 : topN (P.1 5) ||| topN (P.1 6) * 2 ^ 5 = _ := or_add (by omega)
  have e2 : (topN (P.1 5) + topN (P.1 6) * 2 ^ 5) ||| P.2.2.2 * 2 ^ 10 = _ := or_add (by omega)
  have e3 : (topN (P.1 5) + topN (P.1 6) * 2 ^ 5 + P.2.2.2 * 2 ^ 10) ||| (P.1 7).length * 2 ^ 12 = _ := or_add (by omega)
  have e4 : (topN (P.1 5) + topN (P.1 6) * 2 ^ 5 + P.2.2.2 * 2 ^ 10 + (P.1 7).length * 2 ^ 12) ||| (P.1 9).length * 2 ^ 16 = _ := or_add (by omega)
  rw [show sumB 3 P.2.2.1 0 = 0 from rfl, Nat.zero_mul, Nat.add_zero, e1, e2, e3, e4]
  refine ⟨rfl, by omega⟩
theorem w6_eq (P : Pos) (s : Nat) : w6 P s = w6 P 0 + sumB 3 P.2.2.1 s * 2 ^ 20 := by
  unfold w6; rw [show sumB 3 P.2.2.1 0 = 0 from rfl, Nat.zero_mul, Nat.add_zero]
theorem w6_step {P : Pos} (h : KOk P) (s : Nat) : w6 P s ||| P.2.2.1 s * 2 ^ (20 + 3 * s) = w6 P (s + 1) := by
  have h0 := (w6_0 h).2
  have e : ∀ s, w6 P s = w6 P 0 + sumB 3 P.2.2.1 s * 2 ^ 20 := fun s => by
    unfold w6; rw [show sumB 3 P.2.2.1 0 = 0 from rfl, Nat.zero_mul, Nat.add_zero]
  rw [e s, e (s + 1), ← or_add h0, ← or_add h0, ← sumB_or (b := 3) (fun i _ => h.2.2.1 i), ← or_mul, Nat.or_assoc, Nat.add_comm 20, Nat.pow_add, Nat.mul_assoc]
theorem keyL_lt {P : Pos} (h : KOk P) (k : Nat) : keyL P k < 2 ^ 64 := by
  unfold keyL
  split
  · exact pkT_lt64 (h.1.1 k) (h.1.len k)
  · split
    · have h1 : sumB 10 (hgt P) 5 < 1125899906842624 := sumB_lt (b := 10) (d := hgt P) (k := 5) (fun i _ => hgt_lt h i)
      generalize sumB 10 (hgt P) 5 = a at h1 ⊢
      omega
    · split
      · have h0 := (w6_0 h).2
        have h1 : sumB 3 P.2.2.1 4 < 4096 := sumB_lt (b := 3) (d := P.2.2.1) (k := 4) (fun i _ => h.2.2.1 i)
        rw [w6_eq]
        generalize w6 P 0 = a at h0 ⊢
        generalize sumB 3 P.2.2.1 4 = b at h1 ⊢
        omega
      · have a1 : sumB 4 (botN (P.1 7)) 8 < 4294967296 := sumB_lt (b := 4) (d := botN (P.1 7)) (k := 8) (fun i _ => botN_lt h 7 i)
        have a2 : sumB 4 (botN (P.1 9)) 8 < 4294967296 := sumB_lt (b := 4) (d := botN (P.1 9)) (k := 8) (fun i _ => botN_lt h 9 i)
        unfold w7
        generalize sumB 4 (botN (P.1 7)) 8 = a at a1 ⊢
        generalize sumB 4 (botN (P.1 9)) 8 = b at a2 ⊢
        omega
