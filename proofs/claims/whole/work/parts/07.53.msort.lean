/-! ===== the second reading: which column stands ahead ===== -/
def sgI (P : Pos) (p : Nat) : Int := (lN (pkT (P.1 p))).toInt
def ahead (P : Pos) (q p : Nat) : Bool := decide (sgI P q < sgI P p ∨ (sgI P q = sgI P p ∧ (hgt P q < hgt P p ∨ (hgt P q = hgt P p ∧ q < p))))
theorem ahead_irr (P : Pos) (p : Nat) : ahead P p p = false := by unfold ahead; simp
theorem ahead_trans {P : Pos} {a b c : Nat} (h1 : ahead P a b = true) (h2 : ahead P b c = true) : ahead P a c = true := by
  unfold ahead at *
  simp only [decide_eq_true_eq] at *
  omega
theorem ahead_total {P : Pos} {a b : Nat} (h : a ≠ b) : ahead P a b = true ∨ ahead P b a = true := by
  unfold ahead
  simp only [decide_eq_true_eq]
  omega
def rk (P : Pos) (N p : Nat) : Nat := cntB (fun q => ahead P q p) N
theorem cntB_mono {p q : Nat → Bool} : ∀ {n : Nat}, (∀ k, k < n → p k = true → q k = true) → cntB p n ≤ cntB q n
  | 0, _ => Nat.le_refl _
  | n + 1, h => by
    have h1 := cntB_mono (p := p) (q := q) (n := n) (fun k hk => h k (by omega))
    have h2 := h n (by omega)
    show cntB p n + (if p n = true then 1 else 0) ≤ cntB q n + (if q n = true then 1 else 0)
    by_cases z : p n = true
    · rw [if_pos z, if_pos (h2 z)]; omega
    · rw [if_neg z]; omega
theorem cntB_slt {p q : Nat → Bool} : ∀ {n k : Nat}, (∀ k, k < n → p k = true → q k = true) → k < n → p k = false → q k = true → cntB p n < cntB q n
  | n + 1, k, h, hk, e1, e2 => by
    show cntB p n + (if p n = true then 1 else 0) < cntB q n + (if q n = true then 1 else 0)
    by_cases y : k = n
    · subst y
      have h1 := cntB_mono (p := p) (q := q) (n := k) (fun k hk => h k (by omega))
      rw [if_neg (by rw [e1]; decide), if_pos e2]; omega
    · have h1 := cntB_slt (p := p) (q := q) (n := n) (k := k) (fun k hk => h k (by omega)) (by omega) e1 e2
      have h2 := h n (by omega)
      by_cases z : p n = true
      · rw [if_pos z, if_pos (h2 z)]; omega
      · rw [if_neg z]; omega
theorem rk_lt {P : Pos} {N p : Nat} (hp : p < N) : rk P N p < N := by
  have h : cntB (fun q => ahead P q p) N < cntB (fun _ => true) N := cntB_slt (k := p) (fun _ _ _ => rfl) hp (ahead_irr P p) rfl
  exact Nat.lt_of_lt_of_le h (cntB_le _ _)
theorem rk_ahead {P : Pos} {N a b : Nat} (ha : a < N) (h : ahead P a b = true) : rk P N a < rk P N b :=
  cntB_slt (k := a) (fun _ _ h2 => ahead_trans h2 h) ha (ahead_irr P a) h
theorem rk_inj {P : Pos} {N a b : Nat} (ha : a < N) (hb : b < N) (h : rk P N a = rk P N b) : a = b := by
  rcases Nat.decEq a b with z | z
  · rcases ahead_total (P := P) z with y | y
    · have := rk_ahead ha y; omega
    · have := rk_ahead hb y; omega
  · exact z
theorem m_isAhead {I : Nat → Nat → Int32} {L : Nat → Nat → Int64} {P : Pos} (h : MRep I L P) (hk : KOk P) {q p : Nat} (hq : q < 5) (hp : p < 5) : F_X6_isAhead I L (nI q) (nI p) = some (bi (ahead P q p)) := by
  have eh : ∀ p, (nI (P.1 p).length).toInt64 ||| ((nI (P.2.1 p)).toInt64 <<< ((nI 5).toInt64 &&& 63)) = lN (hgt P p) := fun p => by
    have hl := hk.1.len p
    have hh := hk.1.2.2.2.2.1 p
    have t1 : (nI (P.1 p).length).toInt64 = lN (P.1 p).length := nI_l (by omega)
    have t2 : (nI (P.2.1 p)).toInt64 = lN (P.2.1 p) := nI_l (by omega)
    rw [t1, t2, wb_shl _ (show 5 < 64 by omega), fb_orL, or_add (by omega)]; rfl
  obtain ⟨a1, a2, a3⟩ := h.1 q hq
  obtain ⟨b1, b2, b3⟩ := h.1 p hp
  have l1 := hgt_lt hk q
  have l2 := hgt_lt hk p
  unfold F_X6_isAhead
  rw [rdA_n _ hq (by omega), rdA_n _ hq (by omega), rdA_n _ hp (by omega), rdA_n _ hp (by omega), rdA_n _ hq (by omega), rdA_n _ hp (by omega), rdA_n _ hq (by omega), rdA_n _ hp (by omega), a1, a2, a3, b1, b2, b3, eh, eh]
  simp only [show (nI 0 : Int32) = 0 from rfl, lg_cmp_eq, lg_cmp_lt]
  have c1 : (lN (pkT (P.1 q)) < lN (pkT (P.1 p))) ↔ sgI P q < sgI P p := fa_lt64 _ _
  have c2 : (lN (pkT (P.1 q)) = lN (pkT (P.1 p))) ↔ sgI P q = sgI P p := fa_eq64 _ _
  have c3 : (lN (hgt P q) < lN (hgt P p)) ↔ hgt P q < hgt P p := lN_lt (by omega) (by omega)
  have c4 : (lN (hgt P q) = lN (hgt P p)) ↔ hgt P q = hgt P p := lN_eq (by omega) (by omega)
  simp only [c1, c2, c3, c4]
  unfold ahead
  by_cases z1 : sgI P q < sgI P p
  · rw [if_pos z1, decide_eq_true (Or.inl z1)]; rfl
  · rw [if_neg z1]
    by_cases z2 : sgI P q = sgI P p
    · rw [if_pos z2]
      by_cases z3 : hgt P q < hgt P p
      · rw [if_pos z3, decide_eq_true (Or.inr ⟨z2, Or.inl z3⟩)]; rfl
      · rw [if_neg z3]
        by_cases z4 : hgt P q = hgt P p
        · rw [if_pos z4]
          by_cases z5 : q < p
          · rw [if_neg (nI_ge z5 (by omega)), decide_eq_true (Or.inr ⟨z2, Or.inr ⟨z4, z5⟩⟩)]; rfl
          · rw [if_pos (nI_le (by omega) (by omega)), decide_eq_false (by omega)]; rfl
        · rw [if_neg z4, decide_eq_false (by omega)]; rfl
    · rw [if_neg z2, decide_eq_false (by omega)]; rfl
theorem sumB_set {b : Nat} {h r : Nat} (hh : h < 2 ^ b) : ∀ {k : Nat} {d : Nat → Nat}, (∀ i, d i < 2 ^ b) → d r = 0 → r < k → sumB b d k ||| h * 2 ^ (b * r) = sumB b (fun i => if i = r then h else d i) k
  | k + 1, d, hd, h0, hr => by
    have hd2 : ∀ i, (fun i => if i = r then h else d i) i < 2 ^ b := fun i => by
      dsimp only; split
      · exact hh
      · exact hd i
    rw [← sumB_or (fun i _ => hd i), ← sumB_or (d := fun i => if i = r then h else d i) (fun i _ => hd2 i)]
    by_cases z : r = k
    · subst z
      have e : sumB b (fun i => if i = r then h else d i) r = sumB b d r := sumB_congr (fun i hi => by rw [if_neg (by omega)])
      rw [e, h0, Nat.zero_mul, Nat.or_zero]
      rw [if_pos rfl]
    · rw [Nat.or_assoc, Nat.or_comm (d k * _), ← Nat.or_assoc, sumB_set hh hd h0 (show r < k by omega)]
      rw [if_neg (show ¬ k = r by omega)]
