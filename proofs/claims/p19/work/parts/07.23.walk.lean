/-! ===== the class's table: chains of cards ===== -/
theorem FU_gt {j : Nat} (h : j < 5000) : j < FU := h
theorem optI_none : optI none = -1 := rfl
theorem optI_some (c : Nat) : optI (some c) = nI c := rfl
theorem s_fromTop_L {T : Nat → Nat → Int32} {P : Pos} (h : TRep T P) (ho : PosOk P) {p deep : Nat} (hd : deep ≤ 16) : ∀ (j g n : Nat), g + j = deep → j < n → F_X4_fromTop_L17 T n (optI (P.1 p)[g]?) (nI deep) (nI g) = some (optI (P.1 p)[deep]?) := by
  intro j
  induction j with
  | zero =>
    intro g n hg hn
    obtain ⟨n, rfl⟩ : ∃ m, n = m + 1 := ⟨n - 1, by omega⟩
    have e : g = deep := by omega
    subst e
    show F_X4_fromTop_s17 T (F_X4_fromTop_L17 T n) _ _ _ = _
    unfold F_X4_fromTop_s17
    simp (disch := omega) only [nI_ltI, nI_leI, nI_eq, nI_clamp, nI_add, pk_mul, pk_sub, pk_div, pk_rem, sdm, rdA_n, wrA_n, wrJ_n, wr1_n, bnd_s, nz_n, zb0, zb1, zb_bi, cal1_s, cal2_s, cal3_s, cal4_s, cal5_s, cal6_s, nI_negone, negone_nI, negone_lt0, negone_le, bi_eq0, bi_eq1, if_true, if_false, eq_self, Nat.lt_irrefl, Nat.le_refl]
  | succ j ih =>
    intro g n hg hn
    obtain ⟨n, rfl⟩ : ∃ m, n = m + 1 := ⟨n - 1, by omega⟩
    show F_X4_fromTop_s17 T (F_X4_fromTop_L17 T n) _ _ _ = _
    unfold F_X4_fromTop_s17
    rw [if_neg (nI_ge (by omega) (by omega))]
    cases hc : (P.1 p)[g]? with
    | none =>
      have e : (P.1 p)[deep]? = none := by rw [List.getElem?_eq_none_iff] at hc ⊢; omega
      rw [e, optI_none, if_pos rfl]
    | some c =>
      have hc16 := ho.1 p c (List.mem_of_getElem? hc)
      rw [optI_some, if_neg (by rw [nI_negone (by omega)]; exact id), s_under h ho hc, cal1_s, nI_add]
      exact ih (g + 1) n (by omega) (by omega)
theorem s_fromTop {T : Nat → Nat → Int32} {P : Pos} (h : TRep T P) (ho : PosOk P) {p d : Nat} (hp : p < 10) (hd : d < 2 ^ 31) : F_X4_fromTop T (nI p) (nI d) = some (optI (P.1 p)[d]?) := by
  have hl := ho.len p
  unfold F_X4_fromTop
  rw [s_topOf h hp, cal1_s, topI_opt]
  by_cases q : 16 < d
  · rw [if_pos (nI_lt q (by omega)), s_fromTop_L h ho (Nat.le_refl 16) 16 0 FU (by omega) (FU_gt (by omega))]
    rw [List.getElem?_eq_none (by omega), List.getElem?_eq_none (by omega)]
  · rw [if_neg (nI_nlt (by omega) (by omega)), s_fromTop_L h ho (by omega : d ≤ 16) d 0 FU (by omega) (FU_gt (by omega))]
theorem s_heightOf_L {T : Nat → Nat → Int32} {P : Pos} (h : TRep T P) (ho : PosOk P) {p : Nat} : ∀ (j k n : Nat), k + j = (P.1 p).length → j < n → F_X4_heightOf_L8 T n (nI k) (optI (P.1 p)[k]?) = some (nI (P.1 p).length) := by
  have hl := ho.len p
  intro j
  induction j with
  | zero =>
    intro k n hk hn
    obtain ⟨n, rfl⟩ : ∃ m, n = m + 1 := ⟨n - 1, by omega⟩
    show F_X4_heightOf_s8 T (F_X4_heightOf_L8 T n) _ _ = _
    unfold F_X4_heightOf_s8
    rw [List.getElem?_eq_none (by omega), optI_none, if_pos rfl, show k = (P.1 p).length by omega]
  | succ j ih =>
    intro k n hk hn
    obtain ⟨n, rfl⟩ : ∃ m, n = m + 1 := ⟨n - 1, by omega⟩
    show F_X4_heightOf_s8 T (F_X4_heightOf_L8 T n) _ _ = _
    unfold F_X4_heightOf_s8
    have hlt : k < (P.1 p).length := by omega
    have hc : (P.1 p)[k]? = some (P.1 p)[k] := List.getElem?_eq_getElem hlt
    have hc16 := ho.1 p _ (List.mem_of_getElem? hc)
    rw [hc, optI_some, if_neg (by rw [nI_negone (by omega)]; exact id), if_neg (nI_ge (by omega) (by omega)), s_under h ho hc, cal1_s, nI_add]
    exact ih (k + 1) n (by omega) (by omega)
theorem s_heightOf {T : Nat → Nat → Int32} {P : Pos} (h : TRep T P) (ho : PosOk P) {p : Nat} (hp : p < 10) : F_X4_heightOf T (nI p) = some (nI (P.1 p).length) := by
  have hl := ho.len p
  unfold F_X4_heightOf
  rw [s_topOf h hp, cal1_s, topI_opt, s_heightOf_L h ho (P.1 p).length 0 FU (by omega) (FU_gt (by omega))]
theorem bit_at {m c : Nat} (hm : m < 65536) (hc : c < 16) : (nI m >>> (nI c &&& 31)) &&& nI 1 = nI (if m.testBit c then 1 else 0) := by
  have h1 : nI m >>> (nI c &&& 31) = nI (m / 2 ^ c) := pk_shrN (by omega) _ c (by
    have : ∀ c, c < 32 → ((nI c &&& 31).toBitVec.smod 32).toNat = c := by decide
    exact this c (by omega))
  have h2 : m / 2 ^ c ≤ m := Nat.div_le_self _ _
  have h3 : (nI 1 : Int32).toBitVec.toNat = 2 ^ 1 - 1 := by decide
  rw [h1, pk_andN (by omega) 1 h3]
  congr 1
  rw [Nat.testBit_eq_decide_div_mod_eq]
  rcases Nat.mod_two_eq_zero_or_one (m / 2 ^ c) with q | q <;> simp [q]
theorem s_liesHidden {T : Nat → Nat → Int32} {P : Pos} (h : TRep T P) {c : Nat} (hc : c < 16) : F_X4_liesHidden T (nI c) = some (bi (hidB P c)) := by
  obtain ⟨m, hm, e, hb⟩ := h.2.2.1
  unfold F_X4_liesHidden
  rw [s_isCard (by omega), cal1_s, e, bit_at hm hc, hb c hc]
  rw [if_neg (by rw [bi_eq0]; simp [hc])]
  cases hidB P c <;> simp [bi, zb1, zb0] <;> decide
theorem s_liesHidden_none {T : Nat → Nat → Int32} : F_X4_liesHidden T (-1) = some (bi false) := by
  unfold F_X4_liesHidden
  rw [s_isCard_none, cal1_s, if_pos (by rfl), zb0, bi_f]
/-- how many of the last cards, none hidden (h hidden ones at the other end), lie so that each fits on the one ahead of it -/
def runLen (R : Nat → Nat) (h : Nat) : List Nat → Nat
  | [] => 0
  | [_] => 1
  | c :: d :: r => if h < (d :: r).length ∧ fitB R c d = true then 1 + runLen R h (d :: r) else 1
theorem runLen_le (R : Nat → Nat) (h : Nat) : ∀ l, runLen R h l ≤ l.length
  | [] => Nat.le_refl _
  | [_] => Nat.le_refl _
  | c :: d :: r => by
    have := runLen_le R h (d :: r)
    unfold runLen
    split <;> simp only [List.length_cons] at * <;> omega
theorem fitB_rank {R : Nat → Nat} {c o : Nat} (h : fitB R c o = true) : c % R 1 + 1 = o % R 1 := by
  unfold fitB at h
  simp only [Bool.and_eq_true, decide_eq_true_eq] at h
  exact h.1
theorem runLen_rank {R : Nat → Nat} (hR : RulesOk R) (h : Nat) : ∀ (l : List Nat) (c : Nat), runLen R h (c :: l) + c % R 1 ≤ R 1
  | [], c => by have := mod_lt1 hR c; unfold runLen; omega
  | d :: r, c => by
    have h1 := runLen_rank hR h r d
    have h2 := mod_lt1 hR c
    unfold runLen
    split
    · rename_i q; have := fitB_rank q.2; omega
    · omega
theorem runLen_pos {R : Nat → Nat} (h : Nat) : ∀ (l : List Nat), l ≠ [] → 1 ≤ runLen R h l
  | [], q => absurd rfl q
  | [_], _ => Nat.le_refl _
  | c :: d :: r, _ => by unfold runLen; split <;> omega
theorem isRun_runLen {R : Nat → Nat} {h : Nat} : ∀ (l : List Nat) (n : Nat), 1 ≤ n → h < l.length → (isRun R l h n = decide (n ≤ runLen R h l))
  | [], n, _, hh => by simp at hh
  | [c], n, hn, hh => by
    have h0 : h = 0 := by simpa using hh
    subst h0
    unfold isRun runLen
    rcases (show n = 1 ∨ 2 ≤ n by omega) with q | q
    · subst q; simp
    · have h1 : ¬ 0 + n ≤ [c].length := by simp; omega
      have h2 : ¬ n ≤ 1 := by omega
      simp only [h1, h2, decide_false, Bool.false_and]
  | c :: d :: r, n, hn, hh => by
    rcases (show n = 1 ∨ ∃ m, n = m + 2 by exact (Nat.lt_or_ge 1 n).elim (fun q => Or.inr ⟨n - 2, by omega⟩) (fun q => Or.inl (by omega))) with q | ⟨m, q⟩
    · subst q
      have h1 := runLen_pos (R := R) h (c :: d :: r) (by simp)
      unfold isRun
      simp only [List.length_cons] at hh ⊢
      simp [h1]; omega
    · subst q
      by_cases hv : h < (d :: r).length
      · have ih := isRun_runLen (R := R) (d :: r) (m + 1) (by omega) hv
        unfold isRun at ih ⊢
        unfold runLen
        have e1 : (List.range (m + 2 - 1)).all (fun j => fitB R ((c :: d :: r).getD j 0) ((c :: d :: r).getD (j + 1) 0)) = (fitB R c d && (List.range (m + 1 - 1)).all (fun j => fitB R ((d :: r).getD j 0) ((d :: r).getD (j + 1) 0))) := by
          rw [show m + 2 - 1 = m + 1 by omega, List.range_succ_eq_map, List.all_cons, List.all_map]
          rfl
        rw [e1]
        by_cases hf : fitB R c d = true
        · rw [if_pos ⟨hv, hf⟩, hf, Bool.true_and]
          have e2 : decide (h + (m + 2) ≤ (c :: d :: r).length) = decide (h + (m + 1) ≤ (d :: r).length) := by
            simp only [List.length_cons]; congr 1; simp only [eq_iff_iff]; omega
          rw [e2, ih]
          congr 1; simp only [eq_iff_iff]; omega
        · rw [if_neg (fun q => hf q.2)]
          simp only [Bool.not_eq_true] at hf
          rw [hf]; simp
      · unfold isRun runLen
        rw [if_neg (fun q => hv q.1)]
        have h1 : ¬ h + (m + 2) ≤ (c :: d :: r).length := by simp only [List.length_cons] at hv ⊢; omega
        have h2 : ¬ m + 2 ≤ 1 := by omega
        simp only [h1, h2, decide_false, Bool.false_and]
