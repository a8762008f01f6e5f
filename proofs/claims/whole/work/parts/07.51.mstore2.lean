/-! ===== the second reading: store ===== -/
/-- the first k numbers stand there, and all else as it was -/
def SI (P : Pos) (L L1 : Nat → Nat → Int64) (cc o k : Nat) : Prop := (∀ i, i < k → L1 cc (o + i) = lN (keyL P i)) ∧ ∀ a j, ¬ (a = cc ∧ o ≤ j ∧ j < o + 8) → L1 a j = L a j
theorem SI.wr {P : Pos} {L L1 : Nat → Nat → Int64} {cc o k : Nat} (h : SI P L L1 cc o k) (hk : k < 8) : SI P L (stJ L1 cc (o + k) (lN (keyL P k))) cc o (k + 1) := by
  refine ⟨fun i hi => ?_, fun a j ha => ?_⟩
  · rw [stJ_s]
    by_cases z : i = k
    · rw [if_pos ⟨rfl, by omega⟩, z]
    · rw [if_neg (by omega)]; exact h.1 i (by omega)
  · rw [stJ_s, if_neg (by omega)]; exact h.2 a j ha
theorem keyL_c {P : Pos} {k : Nat} (h : k < 5) : keyL P k = pkT (P.1 k) := by unfold keyL; rw [if_pos h]
theorem keyL_5 (P : Pos) : keyL P 5 = sumB 10 (hgt P) 5 := by unfold keyL; rw [if_neg (by omega), if_pos rfl]
theorem keyL_6 (P : Pos) : keyL P 6 = w6 P 4 := by unfold keyL; rw [if_neg (by omega), if_neg (by omega), if_pos rfl]
theorem keyL_7 (P : Pos) : keyL P 7 = w7 P 8 := by unfold keyL; rw [if_neg (by omega), if_neg (by omega), if_neg (by omega)]
theorem w7_0 (P : Pos) : w7 P 0 = 0 := by unfold w7; simp [sumB]
theorem m_st163 {I : Nat → Nat → Int32} {L : Nat → Nat → Int64} {P : Pos} (h : MRep I L P) (hk : KOk P) {cc nn o : Nat} (ho : o + 8 ≤ nn) (hnn : nn < 2 ^ 30) {L1 : Nat → Nat → Int64} (hs : SI P L L1 cc o 7) :
    ∀ (j k n : Nat), k + j = 8 → j < n → ∃ L2, F_X6_store_L163 I cc nn n L1 (nI o) (lN (w7 P k)) (nI k) = some L2 ∧ SI P L L2 cc o 8 := by
  have h8 := hk.2.2.2.1
  intro j
  induction j with
  | zero =>
    intro k n hk2 hn
    obtain ⟨n, rfl⟩ : ∃ q, n = q + 1 := ⟨n - 1, by omega⟩
    show ∃ L2, F_X6_store_s163 I cc nn (F_X6_store_L163 I cc nn n) _ _ _ _ = _ ∧ _
    unfold F_X6_store_s163 F_X6_store_b241
    have : k = 8 := by omega
    subst this
    rw [if_pos (nI_le (by omega) (by omega)), nI_add, wrJ_n _ (by omega) (by omega), ← keyL_7]
    exact ⟨_, rfl, hs.wr (k := 7) (by omega)⟩
  | succ j ih =>
    intro k n hk2 hn
    obtain ⟨n, rfl⟩ : ∃ q, n = q + 1 := ⟨n - 1, by omega⟩
    show ∃ L2, F_X6_store_s163 I cc nn (F_X6_store_L163 I cc nn n) _ _ _ _ = _ ∧ _
    unfold F_X6_store_s163
    have e9 : ∀ v, F_X6_store_b198 I cc nn (F_X6_store_L163 I cc nn n) L1 (nI o) (nI k) v (lN (botN (P.1 7) k * 2 ^ (4 * k))) = F_X6_store_L163 I cc nn n L1 (nI o) ((v ||| lN (botN (P.1 7) k * 2 ^ (4 * k))) ||| lN (botN (P.1 9) k * 2 ^ (32 + 4 * k))) (nI (k + 1)) := by
      intro v
      unfold F_X6_store_b198 F_X6_store_b232
      rw [h.2.2.2.2.1.1, nI_add]
      by_cases q : k < (P.1 9).length
      · have hb : botN (P.1 9) k = (P.1 9).getD ((P.1 9).length - 1 - k) 0 := by unfold botN; rw [if_pos q]
        have hlt := (getD_lt hk.1 (p := 9) (k := (P.1 9).length - 1 - k) (by omega)).1
        rw [if_neg (nI_ge q (by omega)), rdA_n _ (by omega) (by omega), h.2.2.2.2.1.2 k q, nI_l (by omega), pk_mul, nI_add, wb_shl _ (by omega), ← hb]
      · have hb : botN (P.1 9) k = 0 := by unfold botN; rw [if_neg q]
        rw [if_pos (nI_le (by omega) (by omega)), hb, Nat.zero_mul]
    have e7 : (if nI (P.1 7).length ≤ nI k then F_X6_store_b198 I cc nn (F_X6_store_L163 I cc nn n) L1 (nI o) (nI k) (lN (w7 P k)) (lN 0) else rdA (I 7) 8 (nI k) fun x8 => F_X6_store_b198 I cc nn (F_X6_store_L163 I cc nn n) L1 (nI o) (nI k) (lN (w7 P k)) ((x8.toInt64) <<< (((nI 4 * nI k) : Int32).toInt64 &&& 63))) = F_X6_store_b198 I cc nn (F_X6_store_L163 I cc nn n) L1 (nI o) (nI k) (lN (w7 P k)) (lN (botN (P.1 7) k * 2 ^ (4 * k))) := by
      by_cases q : k < (P.1 7).length
      · have hb : botN (P.1 7) k = (P.1 7).getD ((P.1 7).length - 1 - k) 0 := by unfold botN; rw [if_pos q]
        have hlt := (getD_lt hk.1 (p := 7) (k := (P.1 7).length - 1 - k) (by omega)).1
        rw [if_neg (nI_ge q (by omega)), rdA_n _ (by omega) (by omega), h.2.2.2.1.2 k q, nI_l (by omega), pk_mul, wb_shl _ (by omega), ← hb]
      · have hb : botN (P.1 7) k = 0 := by unfold botN; rw [if_neg q]
        rw [if_pos (nI_le (by omega) (by omega)), hb, Nat.zero_mul]
    rw [if_neg (nI_ge (by omega) (by omega)), h.2.2.2.1.1, e7, e9, fb_orL, fb_orL, w7_step hk (by omega)]
    exact ih (k + 1) n (by omega) (by omega)
theorem m_st116 {I : Nat → Nat → Int32} {L : Nat → Nat → Int64} {P : Pos} (h : MRep I L P) (hk : KOk P) {cc nn o : Nat} (ho : o + 8 ≤ nn) (hnn : nn < 2 ^ 30) {L1 : Nat → Nat → Int64} (hs : SI P L L1 cc o 6) :
    ∀ (j k n : Nat), k + j = 4 → j < n → ∃ L2, F_X6_store_L116 I cc nn n L1 (nI o) (lN (w6 P k)) (nI k) = some L2 ∧ SI P L L2 cc o 8 := by
  intro j
  induction j with
  | zero =>
    intro k n hk2 hn
    obtain ⟨n, rfl⟩ : ∃ q, n = q + 1 := ⟨n - 1, by omega⟩
    show ∃ L2, F_X6_store_s116 I cc nn (F_X6_store_L116 I cc nn n) _ _ _ _ = _ ∧ _
    unfold F_X6_store_s116 F_X6_store_b149
    have : k = 4 := by omega
    subst this
    rw [if_pos (nI_le (by omega) (by omega)), nI_add, wrJ_n _ (by omega) (by omega), ← keyL_6, show lN 0 = lN (w7 P 0) by rw [w7_0]]
    exact m_st163 h hk ho hnn (hs.wr (k := 6) (by omega)) 8 0 FU (by omega) (FU_gt (by omega))
  | succ j ih =>
    intro k n hk2 hn
    obtain ⟨n, rfl⟩ : ∃ q, n = q + 1 := ⟨n - 1, by omega⟩
    show ∃ L2, F_X6_store_s116 I cc nn (F_X6_store_L116 I cc nn n) _ _ _ _ = _ ∧ _
    unfold F_X6_store_s116
    have hu := hk.2.2.1 k
    rw [if_neg (nI_ge (by omega) (by omega)), rdA_n _ (by omega) (by omega), h.2.2.1 k (by omega), nI_l (by omega), pk_mul, nI_add, wb_shl _ (by omega), fb_orL, w6_step hk, nI_add]
    exact ih (k + 1) n (by omega) (by omega)
theorem m_st5 {I : Nat → Nat → Int32} {L : Nat → Nat → Int64} {P : Pos} (h : MRep I L P) (hk : KOk P) {cc nn o : Nat} (hc : cc ≠ 0) (ho : o + 8 ≤ nn) (hnn : nn < 2 ^ 30) :
    ∀ (j k n : Nat) (L1 : Nat → Nat → Int64), k + j = 5 → j < n → SI P L L1 cc o k → ∃ L2, F_X6_store_L5 I cc nn n L1 (nI o) (lN (sumB 10 (hgt P) k)) (nI k) = some L2 ∧ SI P L L2 cc o 8 := by
  intro j
  induction j with
  | zero =>
    intro k n L1 hk2 hn hs
    obtain ⟨n, rfl⟩ : ∃ q, n = q + 1 := ⟨n - 1, by omega⟩
    show ∃ L2, F_X6_store_s5 I cc nn (F_X6_store_L5 I cc nn n) _ _ _ _ = _ ∧ _
    unfold F_X6_store_s5 F_X6_store_b57
    have : k = 5 := by omega
    subst this
    have h8 := hk.2.2.2
    have t1 : (nI P.2.2.2).toInt64 = lN P.2.2.2 := nI_l (by omega)
    have t2 : (nI (P.1 7).length).toInt64 = lN (P.1 7).length := nI_l (by omega)
    have t3 : (nI (P.1 9).length).toInt64 = lN (P.1 9).length := nI_l (by omega)
    rw [if_pos (nI_le (by omega) (by omega)), nI_add, wrJ_n _ (by omega) (by omega), rdA_n _ (by omega) (by omega), rdA_n _ (by omega) (by omega), h.2.1 0 (by omega), h.2.1 1 (by omega), topI_64 (hk.1.1 _), topI_64 (hk.1.1 _), h.2.2.2.2.2, h.2.2.2.1.1, h.2.2.2.2.1.1, t1, t2, t3, wb_shl _ (show 5 < 64 by omega), wb_shl _ (show 10 < 64 by omega), wb_shl _ (show 12 < 64 by omega), wb_shl _ (show 16 < 64 by omega), fb_orL, fb_orL, fb_orL, fb_orL, (w6_0 hk).1, ← keyL_5]
    exact m_st116 h hk ho hnn (hs.wr (k := 5) (by omega)) 4 0 FU (by omega) (FU_gt (by omega))
  | succ j ih =>
    intro k n L1 hk2 hn hs
    obtain ⟨n, rfl⟩ : ∃ q, n = q + 1 := ⟨n - 1, by omega⟩
    show ∃ L2, F_X6_store_s5 I cc nn (F_X6_store_L5 I cc nn n) _ _ _ _ = _ ∧ _
    unfold F_X6_store_s5
    have hl := hk.1.len k
    have hh := hk.1.2.2.2.2.1 k
    obtain ⟨b1, b2, b3⟩ := h.1 k (by omega)
    have e0 : L1 0 k = lN (pkT (P.1 k)) := by rw [hs.2 0 k (fun y => hc y.1.symm), b1]
    have ek : lN (pkT (P.1 k)) = lN (keyL P k) := by unfold keyL; rw [if_pos (by omega)]
    have eh : (nI (P.1 k).length ||| (nI (P.2.1 k) <<< (nI 5 &&& 31))).toInt64 = lN (hgt P k) := by
      rw [pk_shlN _ 5 (by decide) (by omega), fa_or, or_add (by omega), nI_l (by omega)]; rfl
    rw [if_neg (nI_ge (by omega) (by omega)), rdA_n _ (by omega) (by omega), e0, nI_add, wrJ_n _ (by omega) (by omega), rdA_n _ (by omega) (by omega), rdA_n _ (by omega) (by omega), b2, b3, eh, pk_mul, wb_shl _ (by omega), fb_orL, sumB_or (fun i _ => hgt_lt hk i), nI_add, ek]
    exact ih (k + 1) n _ (by omega) (by omega) (hs.wr (by omega))
theorem m_store {I : Nat → Nat → Int32} {L : Nat → Nat → Int64} {P : Pos} (h : MRep I L P) (hk : KOk P) {cc nn o : Nat} (hc : cc ≠ 0) (ho : o + 8 ≤ nn) (hnn : nn < 2 ^ 30) : ∃ L2, F_X6_store I cc nn L (nI o) = some L2 ∧ SI P L L2 cc o 8 :=
  m_st5 h hk hc ho hnn 5 0 FU L (by omega) (FU_gt (by omega)) ⟨fun i hi => absurd hi (Nat.not_lt_zero i), fun _ _ _ => rfl⟩
