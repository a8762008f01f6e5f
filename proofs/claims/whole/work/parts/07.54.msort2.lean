/-! ===== the second reading: the sorted numbers of a position ===== -/
def ws (P : Pos) (N : Nat) : Nat → Nat → Nat
  | 0 => fun _ => 0
  | k + 1 => fun i => if i = rk P N k then hgt P k else ws P N k i
theorem ws_at {P : Pos} {N : Nat} : ∀ {k p : Nat}, k ≤ N → p < k → ws P N k (rk P N p) = hgt P p
  | k + 1, p, hk, hp => by
    show (if rk P N p = rk P N k then hgt P k else ws P N k (rk P N p)) = _
    by_cases z : p = k
    · subst z; rw [if_pos rfl]
    · rw [if_neg (fun y => z (rk_inj (by omega) (by omega) y)), ws_at (by omega) (by omega)]
theorem ws_out {P : Pos} {N : Nat} : ∀ {k i : Nat}, k ≤ N → (∀ p, p < k → rk P N p ≠ i) → ws P N k i = 0
  | 0, _, _, _ => rfl
  | k + 1, i, hk, h => by
    show (if i = rk P N k then hgt P k else ws P N k i) = _
    rw [if_neg (fun y => h k (by omega) y.symm), ws_out (by omega) (fun p hp => h p (by omega))]
theorem ws_lt {P : Pos} (hk : KOk P) {N : Nat} : ∀ k i, ws P N k i < 2 ^ 10
  | 0, _ => Nat.two_pow_pos 10
  | k + 1, i => by
    show (if i = rk P N k then hgt P k else ws P N k i) < _
    split
    · exact hgt_lt hk k
    · exact ws_lt hk k i
def w6s (P : Pos) : Nat := (if topN (P.1 6) ≤ topN (P.1 5) then topN (P.1 6) else topN (P.1 5)) + (if topN (P.1 6) ≤ topN (P.1 5) then topN (P.1 5) else topN (P.1 6)) * 2 ^ 5 + w6 P 4 / 2 ^ 10 * 2 ^ 10
/-- f are the eight sorted numbers of P -/
def SK (P : Pos) (N : Nat) (f : Nat → Int64) : Prop := (∀ p, p < N → f (rk P N p) = lN (pkT (P.1 p))) ∧ (∀ i, N ≤ i → i < 5 → f i = lN 0) ∧ f 5 = lN (sumB 10 (ws P N N) 5) ∧ f 6 = lN (w6s P) ∧ f 7 = lN (w7 P 8)
theorem topI_le {l m : List Nat} (h : ∀ c, c ∈ l → c < 16) (h2 : ∀ c, c ∈ m → c < 16) : (topI l ≤ topI m) ↔ topN l ≤ topN m := by
  cases l with
  | nil =>
    cases m with
    | nil => exact ⟨fun _ => Nat.le_refl _, fun _ => Int32.le_refl _⟩
    | cons d r =>
      have := h2 d (by simp)
      refine ⟨fun _ => Nat.zero_le _, fun _ => ?_⟩
      show (-1 : Int32) ≤ nI d
      rw [Int32.le_iff_toInt_le, nI_toInt (by omega)]
      have : (-1 : Int32).toInt = -1 := by decide
      omega
  | cons c r =>
    have h3 := h c (by simp)
    cases m with
    | nil =>
      show nI c ≤ (-1) ↔ c + 1 ≤ 0
      rw [negone_le c (by omega)]
      exact ⟨fun y => y.elim, fun y => by omega⟩
    | cons d r2 =>
      have h4 := h2 d (by simp)
      show nI c ≤ nI d ↔ c + 1 ≤ d + 1
      rw [nI_leI (by omega) (by omega)]; omega
theorem m_sort218 {I : Nat → Nat → Int32} {L1 : Nat → Nat → Int64} {P : Pos} (h2 : ∀ k, k < 2 → I 5 k = topI (P.1 (5 + k))) (hk : KOk P) {cc nn o N : Nat} (ho : o + 8 ≤ nn) (hnn : nn < 2 ^ 30)
    (c6 : L1 cc (o + 6) = lN (keyL P 6)) : F_X6_sort_b146 I cc nn L1 (nI o) (lN (sumB 10 (ws P N N) 5)) = some (stJ (stJ L1 cc (o + 5) (lN (sumB 10 (ws P N N) 5))) cc (o + 6) (lN (w6s P))) := by
  have hlt := keyL_lt hk 6
  have t5 := topN_lt hk 5
  have t6 := topN_lt hk 6
  have b184 : ∀ a, a < 32 → ∀ x : Int64, x + lN 1 = lN a → (a = if topN (P.1 6) ≤ topN (P.1 5) then topN (P.1 6) else topN (P.1 5)) →
      F_X6_sort_b184 I cc nn (stJ L1 cc (o + 5) (lN (sumB 10 (ws P N N) 5))) (nI o) x = some (stJ (stJ L1 cc (o + 5) (lN (sumB 10 (ws P N N) 5))) cc (o + 6) (lN (w6s P))) := by
    intro a ha x hx hax
    have b218 : ∀ b, b < 32 → ∀ y : Int64, y + lN 1 = lN b → (b = if topN (P.1 6) ≤ topN (P.1 5) then topN (P.1 5) else topN (P.1 6)) →
        F_X6_sort_b218 I cc nn (stJ L1 cc (o + 5) (lN (sumB 10 (ws P N N) 5))) (nI o) x y = some (stJ (stJ L1 cc (o + 5) (lN (sumB 10 (ws P N N) 5))) cc (o + 6) (lN (w6s P))) := by
      intro b hb y hy hby
      have e6 : stJ L1 cc (o + 5) (lN (sumB 10 (ws P N N) 5)) cc (o + 6) = lN (keyL P 6) := by rw [stJ_s, if_neg (by omega), c6]
      have ew : (keyL P 6 / 2 ^ 10 * 2 ^ 10 ||| a) ||| b * 2 ^ 5 = w6s P := by
        rw [Nat.or_assoc, or_add (show a < 2 ^ 5 by omega), Nat.or_comm, or_add (show a + b * 2 ^ 5 < 2 ^ 10 by omega), hax, hby, keyL_6]; rfl
      unfold F_X6_sort_b218
      rw [nI_add, rdA_n _ (by omega) (by omega), e6, wb_shr hlt (by omega), wb_shl _ (show 10 < 64 by omega), hx, hy, wb_shl _ (show 5 < 64 by omega), fb_orL, fb_orL, ew, wrJ_n _ (by omega) (by omega)]
    unfold F_X6_sort_b184
    rw [rdA_n _ (by omega) (by omega), rdA_n _ (by omega) (by omega), h2 0 (by omega), h2 1 (by omega), rdA_n _ (by omega) (by omega), rdA_n _ (by omega) (by omega), h2 0 (by omega), h2 1 (by omega)]
    by_cases z : topN (P.1 6) ≤ topN (P.1 5)
    · rw [if_pos ((topI_le (hk.1.1 _) (hk.1.1 _)).mpr z)]
      exact b218 _ t5 _ (topI_64 (hk.1.1 _)) (by rw [if_pos z])
    · rw [if_neg (fun y => z ((topI_le (hk.1.1 _) (hk.1.1 _)).mp y))]
      exact b218 _ t6 _ (topI_64 (hk.1.1 _)) (by rw [if_neg z])
  unfold F_X6_sort_b146
  rw [nI_add, wrJ_n _ (by omega) (by omega), rdA_n _ (by omega) (by omega), rdA_n _ (by omega) (by omega), h2 0 (by omega), h2 1 (by omega), rdA_n _ (by omega) (by omega), rdA_n _ (by omega) (by omega), h2 0 (by omega), h2 1 (by omega)]
  by_cases z : topN (P.1 6) ≤ topN (P.1 5)
  · rw [if_pos ((topI_le (hk.1.1 _) (hk.1.1 _)).mpr z)]
    exact b184 _ t6 _ (topI_64 (hk.1.1 _)) (by rw [if_pos z])
  · rw [if_neg (fun y => z ((topI_le (hk.1.1 _) (hk.1.1 _)).mp y))]
    exact b184 _ t5 _ (topI_64 (hk.1.1 _)) (by rw [if_neg z])
/-- all but the scratch row 5 and the eight places as it was -/
def SF (L L1 : Nat → Nat → Int64) (cc o : Nat) : Prop := ∀ a j, a ≠ 5 → ¬ (a = cc ∧ o ≤ j ∧ j < o + 8) → L1 a j = L a j
theorem m_sort116 {I : Nat → Nat → Int32} {L : Nat → Nat → Int64} {R : Nat → Nat} {P : Pos} (hr : RR (I 1) R) (h : MRep I L P) (hk : KOk P) (hcol : ∀ p, p < 5 → R 2 ≤ p → P.1 p = []) {cc nn o : Nat} (hc5 : cc ≠ 5) (ho : o + 8 ≤ nn) (hnn : nn < 2 ^ 30) :
    ∀ (j k n : Nat) (L1 : Nat → Nat → Int64), k + j = R 2 → j < n → SF L L1 cc o → (∀ p, p < R 2 → L1 5 (rk P (R 2) p) = lN (pkT (P.1 p))) → (∀ i, k ≤ i → i < 8 → L1 cc (o + i) = lN (keyL P i)) → (∀ i, i < k → L1 cc (o + i) = L1 5 i) →
    ∃ L2, F_X6_sort_L116 I cc nn n L1 (nI o) (lN (sumB 10 (ws P (R 2) (R 2)) 5)) (nI k) = some L2 ∧ SF L L2 cc o ∧ SK P (R 2) (fun i => L2 cc (o + i)) := by
  have hR := hr.2
  unfold RulesOk at hR
  intro j
  induction j with
  | zero =>
    intro k n L1 hk2 hn hf h5 hc hd
    obtain ⟨n, rfl⟩ : ∃ q, n = q + 1 := ⟨n - 1, by omega⟩
    have : k = R 2 := by omega
    subst this
    show ∃ L2, F_X6_sort_s116 I cc nn (F_X6_sort_L116 I cc nn n) _ _ _ _ = _ ∧ _
    unfold F_X6_sort_s116
    rw [rdA_n _ (by omega) (by omega), hr.1 2 (by omega), if_pos (nI_le (by omega) (by omega)), m_sort218 h.2.1 hk ho hnn (hc 6 (by omega) (by omega))]
    refine ⟨_, rfl, ?_, ?_⟩
    · intro a j ha hb
      rw [stJ_s, if_neg (by omega), stJ_s, if_neg (by omega)]; exact hf a j ha hb
    · refine ⟨fun p hp => ?_, fun i h1 h2 => ?_, ?_, ?_, ?_⟩
      · have := rk_lt (P := P) hp
        dsimp only
        rw [stJ_s, if_neg (by omega), stJ_s, if_neg (by omega), hd _ this, h5 p hp]
      · dsimp only; rw [stJ_s, if_neg (by omega), stJ_s, if_neg (by omega), hc i h1 (by omega), keyL_c h2, hcol i h2 h1]; rfl
      · dsimp only; rw [stJ_s, if_neg (by omega), stJ_s, if_pos ⟨rfl, rfl⟩]
      · dsimp only; rw [stJ_s, if_pos ⟨rfl, rfl⟩]
      · dsimp only; rw [stJ_s, if_neg (by omega), stJ_s, if_neg (by omega), hc 7 (by omega) (by omega), keyL_7]
  | succ j ih =>
    intro k n L1 hk2 hn hf h5 hc hd
    obtain ⟨n, rfl⟩ : ∃ q, n = q + 1 := ⟨n - 1, by omega⟩
    show ∃ L2, F_X6_sort_s116 I cc nn (F_X6_sort_L116 I cc nn n) _ _ _ _ = _ ∧ _
    unfold F_X6_sort_s116
    rw [rdA_n _ (by omega) (by omega), hr.1 2 (by omega), if_neg (nI_ge (by omega) (by omega)), rdA_n _ (by omega) (by omega), nI_add, wrJ_n _ (by omega) (by omega), nI_add]
    have e5 : ∀ i, stJ L1 cc (o + k) (L1 5 k) 5 i = L1 5 i := fun i => by rw [stJ_s, if_neg (fun y => hc5 y.1.symm)]
    refine ih (k + 1) n (stJ L1 cc (o + k) (L1 5 k)) (by omega) (by omega) ?_ ?_ ?_ ?_
    · intro a j ha hb
      rw [stJ_s, if_neg (by omega)]; exact hf a j ha hb
    · intro p hp; rw [e5]; exact h5 p hp
    · intro i h1 h2; rw [stJ_s, if_neg (by omega)]; exact hc i (by omega) h2
    · intro i hi
      rw [e5, stJ_s]
      by_cases z : i = k
      · rw [if_pos ⟨rfl, by omega⟩, z]
      · rw [if_neg (by omega)]; exact hd i (by omega)
