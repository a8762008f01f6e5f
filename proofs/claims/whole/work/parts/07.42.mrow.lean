/-! ===== the second reading: rows of cards ===== -/
theorem topI_m1 (l : List Nat) (h : ∀ c, c ∈ l → c < 16) : (topI l = (-1)) ↔ l.isEmpty = true := by
  cases l with
  | nil => simp [topI]
  | cons c r =>
    have := h c (by simp)
    show (nI c = (-1)) ↔ _
    rw [nI_negone (by omega)]; simp
def rowEnd (R : Nat → Nat) (P : Pos) (f t n : Nat) (b : Bool) : Bool := b && (decide (n ≤ most R P t) && (decide (t < R 2) && forCol R (P.1 t) ((P.1 f).getD (n - 1) 0)))
theorem m_row_end {I : Nat → Nat → Int32} {L : Nat → Nat → Int64} {R : Nat → Nat} {P : Pos} (h : MRep I L P) (w : WF R P) (hr : RR (I 1) R) {f t n : Nat} (hf : f < 5) (ht : t < 5) (hn : 1 ≤ n) (hn16 : n ≤ 16) {b : Bool} (hb : b = true → n ≤ (P.1 f).length) (v4 : Int32) (hv : b = true → v4 = nI ((P.1 f).length - n)) :
    F_X6_isRow_b173 I L (nI f) (nI t) (nI n) v4 (bi b) (nI (most R P t)) = some (bi (rowEnd R P f t n b)) := by
  have hR := hr.2
  unfold RulesOk at hR
  have hmost : most R P t ≤ 96 := by
    unfold most
    have h1 := cntB_le (fun k => (P.1 (5 + k)).isEmpty) (R 3)
    have h2 := cntB_le (fun c => decide (c ≠ t) && (P.1 c).isEmpty) (R 2)
    have h3 : 2 ^ cntB (fun c => decide (c ≠ t) && (P.1 c).isEmpty) (R 2) ≤ 2 ^ 5 := Nat.pow_le_pow_right (by omega) (by omega)
    exact Nat.le_trans (Nat.mul_le_mul (show _ ≤ 3 by omega) h3) (by decide)
  unfold F_X6_isRow_b173 rowEnd
  cases b with
  | false => rw [if_pos (show bi false = nI 0 from rfl), zb0]; rfl
  | true =>
    have hv := hv rfl
    have hb := hb rfl
    have hl := w.1.len f
    rw [if_neg (by rw [bi_eq0]; decide), hv]
    by_cases q : n ≤ most R P t
    · have hx := m_cardAt h w.1 hf (i := (P.1 f).length - n) (by omega)
      rw [show (P.1 f).length - 1 - ((P.1 f).length - n) = n - 1 by omega] at hx
      rw [if_neg (nI_nlt (by omega) (by omega)), hx, cal1_s, m_comesTo h w hr ht (getD_lt w.1 (by omega)).1, cal1_s, zb0, zb1]
      simp only [q, decide_true, Bool.true_and]
      cases (decide (t < R 2) && forCol R (P.1 t) ((P.1 f).getD (n - 1) 0)) <;> rfl
    · rw [if_pos (nI_lt (by omega) (by omega)), zb0]
      simp only [q, decide_false, Bool.true_and, Bool.false_and]; rfl
theorem m_row_130 {I : Nat → Nat → Int32} {L : Nat → Nat → Int64} {R : Nat → Nat} {P : Pos} (h : MRep I L P) (w : WF R P) (hr : RR (I 1) R) {f t n : Nat} (hf : f < 5) (ht : t < 5) (hn : 1 ≤ n) (hn16 : n ≤ 16) {b : Bool} (hb : b = true → n ≤ (P.1 f).length) (v4 : Int32) (hv : b = true → v4 = nI ((P.1 f).length - n)) :
    ∀ (j k m : Nat), k + j = R 2 → j < m → F_X6_isRow_L130 I L m (nI f) (nI t) (nI n) v4 (bi b) (nI ((1 + cntB (fun k => (P.1 (5 + k)).isEmpty) (R 3)) * 2 ^ cntB (fun c => decide (c ≠ t) && (P.1 c).isEmpty) k)) (nI k) = some (bi (rowEnd R P f t n b)) := by
  have hR := hr.2
  unfold RulesOk at hR
  intro j
  induction j with
  | zero =>
    intro k m hk hm
    obtain ⟨m, rfl⟩ : ∃ q, m = q + 1 := ⟨m - 1, by omega⟩
    show F_X6_isRow_s130 I L (F_X6_isRow_L130 I L m) _ _ _ _ _ _ _ = _
    unfold F_X6_isRow_s130
    rw [rdA_n _ (by omega) (by omega), hr.1 2 (by omega), if_pos (nI_le (by omega) (by omega)), show k = R 2 by omega]
    exact m_row_end h w hr hf ht hn hn16 hb v4 hv
  | succ j ih =>
    intro k m hk hm
    obtain ⟨m, rfl⟩ : ∃ q, m = q + 1 := ⟨m - 1, by omega⟩
    have hl := w.1.len k
    show F_X6_isRow_s130 I L (F_X6_isRow_L130 I L m) _ _ _ _ _ _ _ = _
    unfold F_X6_isRow_s130
    have fin : ∀ x, x = (if (decide (k ≠ t) && (P.1 k).isEmpty) = true then 2 else 1) → F_X6_isRow_b164 I L (F_X6_isRow_L130 I L m) (nI f) (nI t) (nI n) v4 (bi b) (nI k) (nI ((1 + cntB (fun k => (P.1 (5 + k)).isEmpty) (R 3)) * 2 ^ cntB (fun c => decide (c ≠ t) && (P.1 c).isEmpty) k)) (nI x) = some (bi (rowEnd R P f t n b)) := by
      intro x hx
      unfold F_X6_isRow_b164
      rw [nI_add, pk_mul]
      have e : (1 + cntB (fun k => (P.1 (5 + k)).isEmpty) (R 3)) * 2 ^ cntB (fun c => decide (c ≠ t) && (P.1 c).isEmpty) k * x = (1 + cntB (fun k => (P.1 (5 + k)).isEmpty) (R 3)) * 2 ^ cntB (fun c => decide (c ≠ t) && (P.1 c).isEmpty) (k + 1) := by
        rw [Nat.mul_assoc]
        congr 1
        show _ = 2 ^ (cntB (fun c => decide (c ≠ t) && (P.1 c).isEmpty) k + if (decide (k ≠ t) && (P.1 k).isEmpty) = true then 1 else 0)
        rw [hx]
        split
        · rw [Nat.pow_succ]
        · rw [Nat.mul_one, Nat.add_zero]
      rw [e]
      exact ih (k + 1) m (by omega) (by omega)
    rw [rdA_n _ (by omega) (by omega), hr.1 2 (by omega), if_neg (nI_ge (by omega) (by omega)), rdA_n _ (by omega) (by omega), (h.1 k (by omega)).2.1]
    cases e : P.1 k with
    | nil =>
      rw [if_pos (show nI ([] : List Nat).length = nI 0 from rfl)]
      by_cases q : k = t
      · rw [if_pos (by rw [q])]; exact fin 1 (by simp [q])
      · rw [if_neg (by rw [nI_eq (by omega) (by omega)]; exact q)]; exact fin 2 (by simp [q, e])
    | cons c l =>
      rw [e] at hl
      simp only [List.length_cons] at hl ⊢
      rw [if_neg (by rw [nI_eq (by omega) (by omega)]; omega)]; exact fin 1 (by simp [e])
theorem m_row_89 {I : Nat → Nat → Int32} {L : Nat → Nat → Int64} {R : Nat → Nat} {P : Pos} (h : MRep I L P) (w : WF R P) (hr : RR (I 1) R) {f t n : Nat} (hf : f < 5) (ht : t < 5) (hn : 1 ≤ n) (hn16 : n ≤ 16) {b : Bool} (hb : b = true → n ≤ (P.1 f).length) (v4 : Int32) (hv : b = true → v4 = nI ((P.1 f).length - n)) :
    ∀ (j k m : Nat), k + j = R 3 → j < m → F_X6_isRow_L89 I L m (nI f) (nI t) (nI n) v4 (bi b) (nI (1 + cntB (fun k => (P.1 (5 + k)).isEmpty) k)) (nI k) = some (bi (rowEnd R P f t n b)) := by
  have hR := hr.2
  unfold RulesOk at hR
  intro j
  induction j with
  | zero =>
    intro k m hk hm
    obtain ⟨m, rfl⟩ : ∃ q, m = q + 1 := ⟨m - 1, by omega⟩
    show F_X6_isRow_s89 I L (F_X6_isRow_L89 I L m) _ _ _ _ _ _ _ = _
    unfold F_X6_isRow_s89
    rw [rdA_n _ (by omega) (by omega), hr.1 3 (by omega), if_pos (nI_le (by omega) (by omega)), show k = R 3 by omega]
    have := m_row_130 h w hr hf ht hn hn16 hb v4 hv (R 2) 0 FU (by omega) (FU_gt (by omega))
    rw [show cntB (fun c => decide (c ≠ t) && (P.1 c).isEmpty) 0 = 0 from rfl, Nat.pow_zero, Nat.mul_one] at this
    exact this
  | succ j ih =>
    intro k m hk hm
    obtain ⟨m, rfl⟩ : ∃ q, m = q + 1 := ⟨m - 1, by omega⟩
    show F_X6_isRow_s89 I L (F_X6_isRow_L89 I L m) _ _ _ _ _ _ _ = _
    unfold F_X6_isRow_s89
    have e := topI_m1 (P.1 (5 + k)) (w.1.1 _)
    rw [rdA_n _ (by omega) (by omega), hr.1 3 (by omega), if_neg (nI_ge (by omega) (by omega)), rdA_n _ (by omega) (by omega), h.2.1 k (by omega)]
    have hs : cntB (fun k => (P.1 (5 + k)).isEmpty) (k + 1) = cntB (fun k => (P.1 (5 + k)).isEmpty) k + if (P.1 (5 + k)).isEmpty = true then 1 else 0 := rfl
    have := ih (k + 1) m (by omega) (by omega)
    rw [hs, ← Nat.add_assoc] at this
    by_cases q : (P.1 (5 + k)).isEmpty = true
    · rw [if_pos (e.mpr q)]
      rw [if_pos q] at this
      unfold F_X6_isRow_b118
      rw [nI_add, nI_add]; exact this
    · rw [if_neg (fun y => q (e.mp y))]
      rw [if_neg q] at this
      unfold F_X6_isRow_b118
      rw [nI_add, nI_add]; exact this
theorem m_row_37 {I : Nat → Nat → Int32} {L : Nat → Nat → Int64} {R : Nat → Nat} {P : Pos} (h : MRep I L P) (w : WF R P) (hr : RR (I 1) R) {f t n : Nat} (hf : f < 5) (ht : t < 5) (hn : 1 ≤ n) (hn16 : n ≤ 16) (hb : n ≤ (P.1 f).length) :
    ∀ (j m : Nat) (b : Bool), j < n → j < m → F_X6_isRow_L37 I L m (nI f) (nI t) (nI n) (nI ((P.1 f).length - n)) (bi b) (nI ((P.1 f).length - 1 - j)) = some (bi (rowEnd R P f t n (b && (List.range j).all (fun i => fitB R ((P.1 f).getD i 0) ((P.1 f).getD (i + 1) 0))))) := by
  have hl := w.1.len f
  have e83 : ∀ b, F_X6_isRow_b83 I L (nI f) (nI t) (nI n) (nI ((P.1 f).length - n)) (bi b) = some (bi (rowEnd R P f t n b)) := fun b => by
    unfold F_X6_isRow_b83
    exact m_row_89 h w hr hf ht hn hn16 (fun _ => hb) _ (fun _ => rfl) (R 3) 0 FU (by omega) (FU_gt (by have := hr.2; unfold RulesOk at this; omega))
  intro j
  induction j with
  | zero =>
    intro m b hj hm
    obtain ⟨m, rfl⟩ : ∃ q, m = q + 1 := ⟨m - 1, by omega⟩
    show F_X6_isRow_s37 I L (F_X6_isRow_L37 I L m) _ _ _ _ _ _ = _
    unfold F_X6_isRow_s37
    rw [rdA_n _ hf (by omega), (h.1 f hf).2.1, nI_add, if_pos (nI_le (by omega) (by omega)), e83]
    simp
  | succ j ih =>
    intro m b hj hm
    obtain ⟨m, rfl⟩ : ∃ q, m = q + 1 := ⟨m - 1, by omega⟩
    show F_X6_isRow_s37 I L (F_X6_isRow_L37 I L m) _ _ _ _ _ _ = _
    unfold F_X6_isRow_s37
    rw [rdA_n _ hf (by omega), (h.1 f hf).2.1, nI_add, if_neg (nI_ge (by omega) (by omega))]
    cases b with
    | false => rw [if_pos (show bi false = nI 0 from rfl), e83]; rfl
    | true =>
      have c1 := m_cardAt h w.1 hf (i := (P.1 f).length - 1 - (j + 1) + 1) (by omega)
      have c2 := m_cardAt h w.1 hf (i := (P.1 f).length - 1 - (j + 1)) (by omega)
      rw [show (P.1 f).length - 1 - ((P.1 f).length - 1 - (j + 1) + 1) = j by omega] at c1
      rw [show (P.1 f).length - 1 - ((P.1 f).length - 1 - (j + 1)) = j + 1 by omega] at c2
      rw [if_neg (by rw [bi_eq0]; decide), c1, cal1_s, c2, cal1_s, m_fits hr (getD_lt w.1 (by omega)).1 (getD_lt w.1 (by omega)).1, cal1_s, show (P.1 f).length - 1 - (j + 1) + 1 = (P.1 f).length - 1 - j by omega, ih m _ (by omega) (by omega), List.range_succ, List.all_append]
      simp only [List.all_cons, List.all_nil, Bool.and_true, Bool.true_and]
      rw [Bool.and_comm]
theorem m_isRow {I : Nat → Nat → Int32} {L : Nat → Nat → Int64} {R : Nat → Nat} {P : Pos} (h : MRep I L P) (w : WF R P) (hr : RR (I 1) R) {f t n : Nat} (hf : f < 5) (ht : t < 5) (hn : 1 ≤ n) (hn16 : n ≤ 16) :
    F_X6_isRow I L (nI f) (nI t) (nI n) = some (bi (rowEnd R P f t n (isRun R (P.1 f) (P.2.1 f) n))) := by
  have hl := w.1.len f
  have hh := w.1.2.2.2.2.1 f
  unfold F_X6_isRow
  rw [rdA_n _ hf (by omega), rdA_n _ hf (by omega), (h.1 f hf).2.1, (h.1 f hf).2.2]
  by_cases q : n ≤ (P.1 f).length
  · rw [pk_sub q]
    have fin := fun b => m_row_37 h w hr hf ht hn hn16 q (n - 1) FU b (by omega) (FU_gt (by omega))
    rw [show (P.1 f).length - 1 - (n - 1) = (P.1 f).length - n by omega] at fin
    by_cases q2 : P.2.1 f + n ≤ (P.1 f).length
    · rw [if_neg (nI_nlt (by omega) (by omega)), if_neg (nI_nlt (by omega) (by omega)), show (nI 1 : Int32) = bi true from rfl, fin]
      unfold isRun; simp [q2]
    · rw [if_pos (nI_lt (by omega) (by omega)), show (nI 0 : Int32) = bi false from rfl, fin]
      unfold isRun; simp [q2]
  · have hneg : nI (P.1 f).length - nI n < nI 0 := by
      rw [neg_lt0]
      · trivial
      · rw [fb_subI (by rw [nI_toInt (by omega), nI_toInt (by omega)]; omega) (by rw [nI_toInt (by omega), nI_toInt (by omega)]; omega), nI_toInt (by omega), nI_toInt (by omega)]
        omega
    have e : isRun R (P.1 f) (P.2.1 f) n = false := by unfold isRun; rw [decide_eq_false (by omega)]; rfl
    have fin : F_X6_isRow_L37 I L FU (nI f) (nI t) (nI n) (nI (P.1 f).length - nI n) (nI 0) (nI (P.1 f).length - nI n) = some (bi (rowEnd R P f t n (isRun R (P.1 f) (P.2.1 f) n))) := by
      have e83 : F_X6_isRow_b83 I L (nI f) (nI t) (nI n) (nI (P.1 f).length - nI n) (nI 0) = some (bi (rowEnd R P f t n false)) := by
        unfold F_X6_isRow_b83
        exact m_row_89 (b := false) h w hr hf ht hn hn16 (fun y => by cases y) _ (fun y => by cases y) (R 3) 0 FU (by omega) (FU_gt (by have := hr.2; unfold RulesOk at this; omega))
      show F_X6_isRow_s37 I L (F_X6_isRow_L37 I L 4999) _ _ _ _ _ _ = _
      unfold F_X6_isRow_s37
      rw [rdA_n _ hf (by omega), e83, if_pos (show (nI 0 : Int32) = nI 0 from rfl), e]
      split <;> rfl
    rw [if_pos hneg, fin]
    split <;> rfl
