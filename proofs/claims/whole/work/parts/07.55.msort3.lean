/-! ===== the second reading: sort, whole ===== -/
theorem MRep.atL {I : Nat → Nat → Int32} {L L1 : Nat → Nat → Int64} {P : Pos} (h : MRep I L P) (e : L1 0 = L 0) : MRep I L1 P :=
  ⟨fun p hp => by rw [e]; exact h.1 p hp, h.2⟩
theorem m_sort28 {I : Nat → Nat → Int32} {L1 : Nat → Nat → Int64} {R : Nat → Nat} {P : Pos} (hr : RR (I 1) R) (h : MRep I L1 P) (hk : KOk P) {cc nn : Nat} {p : Nat} (hp : p < 5) (v2 : Int32) (v3 : Int64) (K11 : (Nat → Nat → Int64) → Int32 → Int64 → Int32 → Option ((Nat → Nat → Int64))) :
    ∀ (j k n : Nat), k + j = R 2 → j < n → F_X6_sort_L28 I cc nn K11 n L1 v2 v3 (nI p) (nI (cntB (fun q => ahead P q p) k)) (nI k) = F_X6_sort_b66 I cc nn K11 L1 v2 v3 (nI p) (nI (rk P (R 2) p)) := by
  have hR := hr.2
  unfold RulesOk at hR
  intro j
  induction j with
  | zero =>
    intro k n hk2 hn
    obtain ⟨n, rfl⟩ : ∃ q, n = q + 1 := ⟨n - 1, by omega⟩
    have : k = R 2 := by omega
    subst this
    show F_X6_sort_s28 I cc nn K11 (F_X6_sort_L28 I cc nn K11 n) _ _ _ _ _ _ = _
    unfold F_X6_sort_s28
    rw [rdA_n _ (by omega) (by omega), hr.1 2 (by omega), if_pos (nI_le (by omega) (by omega))]; rfl
  | succ j ih =>
    intro k n hk2 hn
    obtain ⟨n, rfl⟩ : ∃ q, n = q + 1 := ⟨n - 1, by omega⟩
    show F_X6_sort_s28 I cc nn K11 (F_X6_sort_L28 I cc nn K11 n) _ _ _ _ _ _ = _
    unfold F_X6_sort_s28 F_X6_sort_b57
    have e : cntB (fun q => ahead P q p) (k + 1) = cntB (fun q => ahead P q p) k + if ahead P k p = true then 1 else 0 := rfl
    have i0 := ih (k + 1) n (by omega) (by omega)
    rw [e] at i0
    rw [rdA_n _ (by omega) (by omega), hr.1 2 (by omega), if_neg (nI_ge (by omega) (by omega)), m_isAhead h hk (by omega) hp, cal1_s, bi_if, nI_add, nI_add, nI_add]
    by_cases z : ahead P k p = true
    · rw [if_pos z]; rw [if_pos z] at i0; exact i0
    · rw [if_neg z]; rw [if_neg z] at i0; exact i0
theorem m_sort11 {I : Nat → Nat → Int32} {L : Nat → Nat → Int64} {R : Nat → Nat} {P : Pos} (hr : RR (I 1) R) (h : MRep I L P) (hk : KOk P) (hcol : ∀ p, p < 5 → R 2 ≤ p → P.1 p = []) {cc nn o : Nat} (hc5 : cc ≠ 5) (hc0 : cc ≠ 0) (ho : o + 8 ≤ nn) (hnn : nn < 2 ^ 30) :
    ∀ (j k n : Nat) (L1 : Nat → Nat → Int64), k + j = R 2 → j < n → SF L L1 cc o → (∀ p, p < k → L1 5 (rk P (R 2) p) = lN (pkT (P.1 p))) → (∀ i, i < 8 → L1 cc (o + i) = lN (keyL P i)) →
    ∃ L2, F_X6_sort_L11 I cc nn n L1 (nI o) (lN (sumB 10 (ws P (R 2) k) 5)) (nI k) = some L2 ∧ SF L L2 cc o ∧ SK P (R 2) (fun i => L2 cc (o + i)) := by
  have hR := hr.2
  unfold RulesOk at hR
  intro j
  induction j with
  | zero =>
    intro k n L1 hk2 hn hf h5 hc
    obtain ⟨n, rfl⟩ : ∃ q, n = q + 1 := ⟨n - 1, by omega⟩
    have : k = R 2 := by omega
    subst this
    show ∃ L2, F_X6_sort_s11 I cc nn (F_X6_sort_L11 I cc nn n) _ _ _ _ = _ ∧ _
    unfold F_X6_sort_s11
    rw [rdA_n _ (by omega) (by omega), hr.1 2 (by omega), if_pos (nI_le (by omega) (by omega))]
    exact m_sort116 hr h hk hcol hc5 ho hnn (R 2) 0 FU L1 (by omega) (FU_gt (by omega)) hf h5 (fun i _ hi => hc i hi) (fun i hi => absurd hi (Nat.not_lt_zero i))
  | succ j ih =>
    intro k n L1 hk2 hn hf h5 hc
    obtain ⟨n, rfl⟩ : ∃ q, n = q + 1 := ⟨n - 1, by omega⟩
    show ∃ L2, F_X6_sort_s11 I cc nn (F_X6_sort_L11 I cc nn n) _ _ _ _ = _ ∧ _
    unfold F_X6_sort_s11
    have e0 : L1 0 = L 0 := by funext j; exact hf 0 j (by omega) (fun y => hc0 y.1.symm)
    have hm := h.atL e0
    obtain ⟨b1, b2, b3⟩ := hm.1 k (by omega)
    have hl := hk.1.len k
    have hh := hk.1.2.2.2.2.1 k
    have hrk := rk_lt (P := P) (show k < R 2 by omega)
    have eh : (nI (P.1 k).length ||| (nI (P.2.1 k) <<< (nI 5 &&& 31))).toInt64 = lN (hgt P k) := by
      rw [pk_shlN _ 5 (by decide) (by omega), fa_or, or_add (by omega), nI_l (by omega)]; rfl
    rw [rdA_n _ (by omega) (by omega), hr.1 2 (by omega), if_neg (nI_ge (by omega) (by omega)), show (nI 0 : Int32) = nI (cntB (fun q => ahead P q k) 0) from rfl]
    have e28 := m_sort28 (cc := cc) (nn := nn) hr hm hk (show k < 5 by omega) (nI o) (lN (sumB 10 (ws P (R 2) k) 5)) (F_X6_sort_L11 I cc nn n) (R 2) 0 FU (by omega) (FU_gt (by omega))
    have e28' : F_X6_sort_L28 I cc nn (F_X6_sort_L11 I cc nn n) FU L1 (nI o) (lN (sumB 10 (ws P (R 2) k) 5)) (nI k) (nI (cntB (fun q => ahead P q k) 0)) (nI (cntB (fun q => ahead P q k) 0)) = _ := e28
    rw [e28']
    unfold F_X6_sort_b66
    rw [rdA_n _ (by omega) (by omega), b1, wrJ_n _ (by omega) (by omega), rdA_n _ (by omega) (by omega), rdA_n _ (by omega) (by omega), b2, b3, eh, pk_mul, wb_shl _ (by omega), fb_orL, sumB_set (hgt_lt hk k) (fun i => ws_lt hk k i) (ws_out (by omega) (fun p hp y => by have := rk_inj (by omega) (by omega) y; omega)) (by omega), nI_add]
    refine ih (k + 1) n (stJ L1 5 (rk P (R 2) k) (lN (pkT (P.1 k)))) (by omega) (by omega) ?_ ?_ ?_
    · intro a j ha hb
      rw [stJ_s, if_neg (fun y => ha y.1)]; exact hf a j ha hb
    · intro p hp
      rw [stJ_s]
      by_cases z : p = k
      · rw [z, if_pos ⟨rfl, rfl⟩]
      · rw [if_neg (fun y => z (rk_inj (by omega) (by omega) y.2))]; exact h5 p (by omega)
    · intro i hi
      rw [stJ_s, if_neg (fun y => hc5 y.1)]; exact hc i hi
theorem m_sort {I : Nat → Nat → Int32} {L : Nat → Nat → Int64} {R : Nat → Nat} {P : Pos} (hr : RR (I 1) R) (h : MRep I L P) (w : WF R P) {cc nn o : Nat} (hc5 : cc ≠ 5) (hc0 : cc ≠ 0) (ho : o + 8 ≤ nn) (hnn : nn < 2 ^ 30) :
    ∃ L2, F_X6_sort I cc nn L (nI o) = some L2 ∧ SF L L2 cc o ∧ SK P (R 2) (fun i => L2 cc (o + i)) := by
  have hk := w.kok hr.2
  unfold F_X6_sort
  obtain ⟨L1, e1, e2⟩ := m_store h hk hc0 ho hnn
  rw [e1, cal1_s]
  have hR := hr.2
  unfold RulesOk at hR
  have e0 : sumB 10 (ws P (R 2) 0) 5 = 0 := by simp [sumB, ws]
  have e3 := m_sort11 hr h hk w.2.1 hc5 hc0 ho hnn (R 2) 0 FU L1 (by omega) (FU_gt (by omega)) (fun a j _ hb => e2.2 a j hb) (fun p hp => absurd hp (Nat.not_lt_zero p)) e2.1
  rw [e0] at e3
  exact e3
