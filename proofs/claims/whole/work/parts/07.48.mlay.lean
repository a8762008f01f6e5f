/-! ===== the second reading: laying a deal ===== -/
theorem m_next {mc x : Nat} (hm : mc < 2) (hx : x < 2147483648) : F_X6_next (nI mc) (lN x) = some (lN (nextN mc x)) := by
  unfold F_X6_next F_X6_next_b25 nextN nzL
  rw [if_neg (show ¬ lN 2147483648 = 0 by decide)]
  by_cases q : mc = 0
  · subst q; rw [if_pos rfl, if_pos rfl, lN_mul, lN_add, pk_lRem (by omega) (by omega) (by omega)]
  · rw [if_neg (by rw [nI_eq (by omega) (by omega)]; exact q), if_neg q, if_neg (show ¬ lN 2147483648 = 0 by decide), lN_mul, lN_add, pk_lRem (by omega) (by omega) (by omega)]
/-- with no card hidden yet -/
def noH (P : Pos) : Pos := (P.1, fun _ => 0, P.2.2.1, P.2.2.2)
theorem m_clear36 : ∀ (j k n : Nat) (I : Nat → Nat → Int32) (L : Nat → Nat → Int64), k + j = 4 → j < n → (∀ p, p < 5 → L 0 p = lN 0 ∧ I 3 p = nI 0 ∧ I 4 p = nI 0) → (∀ s, s < k → I 6 s = nI 0) →
    ∃ I' L', F_X6_clear_L36 n I L (nI k) = some (I', L') ∧ MRep I' L' (noH emptyP) ∧ FrI I I' ∧ FrL L L' := by
  intro j
  induction j with
  | zero =>
    intro k n I L hk hn h1 h2
    obtain ⟨n, rfl⟩ : ∃ q, n = q + 1 := ⟨n - 1, by omega⟩
    show ∃ I' L', F_X6_clear_s36 (F_X6_clear_L36 n) I L _ = _ ∧ _
    unfold F_X6_clear_s36 F_X6_clear_b54
    rw [if_pos (nI_le (by omega) (by omega)), wrA_n _ (by omega) (by omega), wrA_n _ (by omega) (by omega), bnd_s, bnd_s, bnd_s]
    refine ⟨_, _, rfl, ?_, ((((FrI.st (by omega) (by omega)).trans (FrI.st (by omega) (by omega))).trans (FrI.st0 (Or.inl rfl))).trans (FrI.st0 (Or.inr (Or.inl rfl)))).trans (FrI.st0 (Or.inr (Or.inr rfl))), FrL.refl L⟩
    refine ⟨fun p hp => ?_, fun j hj => ?_, fun s hs => ?_, ⟨?_, fun i hi => absurd hi (Nat.not_lt_zero i)⟩, ⟨?_, fun i hi => absurd hi (Nat.not_lt_zero i)⟩, ?_⟩
    · obtain ⟨a, b, c⟩ := h1 p hp
      refine ⟨a, ?_, ?_⟩
      · simp only [st2_s]; simp [b, noH, emptyP]
      · simp only [st2_s]; simp [c, noH]
    · have : j = 0 ∨ j = 1 := by omega
      rcases this with z | z <;> subst z <;> simp [st2_s, noH, emptyP, topI]
    · have := h2 s (by omega)
      simp only [st2_s]; simp [this, noH, emptyP]
    · simp only [st2_s]; simp [noH, emptyP]
    · simp only [st2_s]; simp [noH, emptyP]
    · simp only [st2_s]; simp [noH, emptyP]
  | succ j ih =>
    intro k n I L hk hn h1 h2
    obtain ⟨n, rfl⟩ : ∃ q, n = q + 1 := ⟨n - 1, by omega⟩
    show ∃ I' L', F_X6_clear_s36 (F_X6_clear_L36 n) I L _ = _ ∧ _
    unfold F_X6_clear_s36
    rw [if_neg (nI_ge (by omega) (by omega)), wrA_n _ (by omega) (by omega), nI_add]
    obtain ⟨I', L', e1, e2, e3, e4⟩ := ih (k + 1) n (st2 I 6 k (nI 0)) L (by omega) (by omega) (fun p hp => by
      obtain ⟨a, b, c⟩ := h1 p hp
      exact ⟨a, by rw [st2_s, if_neg (by omega)]; exact b, by rw [st2_s, if_neg (by omega)]; exact c⟩) (fun s hs => by
      rw [st2_s]
      by_cases z : s = k
      · rw [if_pos ⟨rfl, z⟩]
      · rw [if_neg (fun y => z y.2)]; exact h2 s (by omega))
    exact ⟨I', L', e1, e2, (FrI.st (by omega) (by omega)).trans e3, e4⟩
theorem m_clear2 : ∀ (j k n : Nat) (I : Nat → Nat → Int32) (L : Nat → Nat → Int64), k + j = 5 → j < n → (∀ p, p < k → L 0 p = lN 0 ∧ I 3 p = nI 0 ∧ I 4 p = nI 0) →
    ∃ I' L', F_X6_clear_L2 n I L (nI k) = some (I', L') ∧ MRep I' L' (noH emptyP) ∧ FrI I I' ∧ FrL L L' := by
  intro j
  induction j with
  | zero =>
    intro k n I L hk hn h1
    obtain ⟨n, rfl⟩ : ∃ q, n = q + 1 := ⟨n - 1, by omega⟩
    show ∃ I' L', F_X6_clear_s2 (F_X6_clear_L2 n) I L _ = _ ∧ _
    unfold F_X6_clear_s2
    rw [if_pos (nI_le (by omega) (by omega))]
    exact m_clear36 4 0 FU I L (by omega) (FU_gt (by omega)) (fun p hp => h1 p (by omega)) (fun s hs => absurd hs (Nat.not_lt_zero s))
  | succ j ih =>
    intro k n I L hk hn h1
    obtain ⟨n, rfl⟩ : ∃ q, n = q + 1 := ⟨n - 1, by omega⟩
    show ∃ I' L', F_X6_clear_s2 (F_X6_clear_L2 n) I L _ = _ ∧ _
    unfold F_X6_clear_s2
    rw [if_neg (nI_ge (by omega) (by omega)), wrJ_n _ (by omega) (by omega), wrA_n _ (by omega) (by omega), wrA_n _ (by omega) (by omega), nI_add]
    obtain ⟨I', L', e1, e2, e3, e4⟩ := ih (k + 1) n (st2 (st2 I 3 k (nI 0)) 4 k (nI 0)) (stJ L 0 k (lN 0)) (by omega) (by omega) (fun p hp => by
      rw [stJ_s, st2_s, st2_s, st2_s, st2_s]
      by_cases z : p = k
      · rw [if_pos ⟨rfl, z⟩, if_neg (by omega), if_pos ⟨rfl, z⟩, if_pos ⟨rfl, z⟩]; exact ⟨rfl, rfl, rfl⟩
      · rw [if_neg (fun y => z y.2), if_neg (by omega), if_neg (fun y => z y.2), if_neg (fun y => z y.2), if_neg (by omega)]; exact h1 p (by omega))
    exact ⟨I', L', e1, e2, ((FrI.st (by omega) (by omega)).trans (FrI.st (by omega) (by omega))).trans e3, FrL.stJ.trans e4⟩
theorem m_clear (I : Nat → Nat → Int32) (L : Nat → Nat → Int64) : ∃ I' L', F_X6_clear I L = some (I', L') ∧ MRep I' L' (noH emptyP) ∧ FrI I I' ∧ FrL L L' :=
  m_clear2 5 0 FU I L (by omega) (FU_gt (by omega)) (fun p hp => absurd hp (Nat.not_lt_zero p))
/-- a card laid on a column or on the stock -/
theorem MRep.put {I I' : Nat → Nat → Int32} {L L' : Nat → Nat → Int64} {R : Nat → Nat} {P : Pos} (h : MRep I L (noH P)) {c p : Nat} (hp : p < 5)
    (e1 : L' 0 p = lN (pkT (c :: P.1 p))) (e2 : I' 3 p = nI ((P.1 p).length + 1)) (e3 : ∀ q, q ≠ p → L' 0 q = L 0 q) (e4 : ∀ a j, ¬ (a = 3 ∧ j = p) → a ≠ 9 → I' a j = I a j) : MRep I' L' (noH (putP R P c p)) := by
  have gp : ∀ q, q ≠ p → (noH (putP R P c p)).1 q = P.1 q := fun q hq => by show (if q = p then _ else _) = _; rw [if_neg hq]
  have ep : (noH (putP R P c p)).1 p = c :: P.1 p := by show (if p = p then _ else _) = _; rw [if_pos rfl]
  refine ⟨fun q hq => ?_, fun j hj => ?_, fun s hs => ?_, ⟨?_, fun i hi => ?_⟩, ⟨?_, fun i hi => ?_⟩, ?_⟩
  · by_cases z : q = p
    · subst z
      rw [ep, e1, e2, e4 4 q (by omega) (by omega)]
      exact ⟨rfl, rfl, (h.1 q hq).2.2⟩
    · rw [gp q z, e3 q z, e4 3 q (by omega) (by omega), e4 4 q (by omega) (by omega)]; exact h.1 q hq
  · rw [e4 5 j (by omega) (by omega), gp _ (by omega)]; exact h.2.1 j hj
  · rw [e4 6 s (by omega) (by omega)]; exact h.2.2.1 s hs
  · rw [e4 0 21 (by omega) (by omega), gp _ (by omega)]; exact h.2.2.2.1.1
  · rw [gp 7 (by omega)] at hi ⊢; rw [e4 7 i (by omega) (by omega)]; exact h.2.2.2.1.2 i hi
  · rw [e4 0 23 (by omega) (by omega), gp _ (by omega)]; exact h.2.2.2.2.1.1
  · rw [gp 9 (by omega)] at hi ⊢; rw [e4 8 i (by omega) (by omega)]; exact h.2.2.2.2.1.2 i hi
  · rw [e4 0 24 (by omega) (by omega)]; exact h.2.2.2.2.2
theorem MRep.put9 {I I' : Nat → Nat → Int32} {L : Nat → Nat → Int64} {R : Nat → Nat} {P : Pos} (h : MRep I L (noH P)) {c : Nat}
    (e1 : I' 8 (P.1 9).length = nI c) (e2 : I' 0 23 = nI ((P.1 9).length + 1)) (e4 : ∀ a j, ¬ (a = 8 ∧ j = (P.1 9).length) → ¬ (a = 0 ∧ j = 23) → a ≠ 9 → I' a j = I a j) : MRep I' L (noH (putP R P c 9)) := by
  have gp : ∀ q, q ≠ 9 → (noH (putP R P c 9)).1 q = P.1 q := fun q hq => by show (if q = 9 then _ else _) = _; rw [if_neg hq]
  have ep : (noH (putP R P c 9)).1 9 = c :: P.1 9 := rfl
  refine ⟨fun q hq => ?_, fun j hj => ?_, fun s hs => ?_, ⟨?_, fun i hi => ?_⟩, ⟨?_, fun i hi => ?_⟩, ?_⟩
  · rw [gp q (by omega), e4 3 q (by omega) (by omega) (by omega), e4 4 q (by omega) (by omega) (by omega)]; exact h.1 q hq
  · rw [e4 5 j (by omega) (by omega) (by omega), gp _ (by omega)]; exact h.2.1 j hj
  · rw [e4 6 s (by omega) (by omega) (by omega)]; exact h.2.2.1 s hs
  · rw [e4 0 21 (by omega) (by omega) (by omega), gp _ (by omega)]; exact h.2.2.2.1.1
  · rw [gp 7 (by omega)] at hi ⊢; rw [e4 7 i (by omega) (by omega) (by omega)]; exact h.2.2.2.1.2 i hi
  · rw [ep, e2]; rfl
  · rw [ep] at hi ⊢
    simp only [List.length_cons] at hi ⊢
    by_cases z : i = (P.1 9).length
    · rw [z, e1, Nat.add_sub_cancel, Nat.sub_self]; rfl
    · rw [e4 8 i (fun y => z y.2) (by omega) (by omega), show (P.1 9).length + 1 - 1 - i = ((P.1 9).length - 1 - i) + 1 by omega]
      exact h.2.2.2.2.1.2 i (show i < (P.1 9).length by omega)
  · rw [e4 0 24 (by omega) (by omega) (by omega)]; exact h.2.2.2.2.2
