/-! ===== the class's table: the list of moves ===== -/
def canB (f t n : Nat) : Bool := decide (f ≠ 8) && (decide (n = 1) || (decide (f < 5) && decide (t < 5)))
def codeN (f t n : Nat) : Nat := 1000 * f + 100 * t + n
def mvFT (R : Nat → Nat) (P : Pos) (f t : Nat) : List Nat := ((List.range' 1 16).filter (fun n => canB f t n && legal R P f t n)).map (codeN f t)
def mvF (R : Nat → Nat) (P : Pos) (f : Nat) : List Nat := (List.range 9).flatMap (mvFT R P f)
/-- the moves there are, by their order, as they are told -/
def mvs (R : Nat → Nat) (P : Pos) : List Nat := (List.range 10).flatMap (mvF R P)
/-- the table with a list of moves on it -/
def LRep (T : Nat → Nat → Int32) (P : Pos) (acc : List Nat) : Prop := TRep T P ∧ T 0 4 = nI acc.length ∧ ∀ i c, acc[i]? = some c → T 3 i = nI c
theorem TRep.cong {T T' : Nat → Nat → Int32} {P : Pos} (h : TRep T P) (h1 : ∀ c, c < 16 → T' 1 c = T 1 c) (h2 : ∀ p, p < 10 → T' 2 p = T 2 p) (h5 : T' 0 5 = T 0 5) (h6 : T' 0 6 = T 0 6) : TRep T' P :=
  ⟨fun p hp => (h2 p hp).trans (h.1 p hp), fun c hc => (h1 c hc).trans (h.2.1 c hc), by rw [h5]; exact h.2.2.1, h6.trans h.2.2.2.1, h.2.2.2.2⟩
theorem LRep.push {T : Nat → Nat → Int32} {P : Pos} {acc : List Nat} (h : LRep T P acc) (c : Nat) : LRep (st2 (st2 T 3 acc.length (nI c)) 0 4 (nI (acc.length + 1))) P (acc ++ [c]) := by
  refine ⟨h.1.cong ?_ ?_ ?_ ?_, ?_, ?_⟩
  · intro c hc; simp [st2_s]
  · intro c hc; simp [st2_s]
  · simp [st2_s]
  · simp [st2_s]
  · simp [st2_s]
  · intro i d hd
    simp only [st2_s]
    rcases Nat.lt_trichotomy i acc.length with q | q | q
    · rw [List.getElem?_append_left q] at hd
      rw [if_neg (by omega), if_neg (by omega)]; exact h.2.2 i d hd
    · subst q
      rw [List.getElem?_append_right (Nat.le_refl _)] at hd
      simp at hd; subst hd
      simp
    · rw [List.getElem?_append_right (by omega), List.getElem?_eq_none (by simp; omega)] at hd; cases hd
theorem s_codeOf {f t n : Nat} : F_X5_codeOf (nI f) (nI t) (nI n) = some (nI (codeN f t n)) := by
  unfold F_X5_codeOf codeN; rw [pk_mul, pk_mul, nI_add, nI_add]
theorem setc_upd (T : Nat → Nat → Int32) (k i : Nat) (x : Int32) : setc T k (upd (T k) i x) = st2 T k i x := by
  funext a; unfold setc st2
  by_cases h : a = k
  · subst h; simp
  · simp [h]
theorem s_list_L73 {r : Nat → Int32} {R : Nat → Nat} {P : Pos} (w : WF R P) (hr : RR r R) {f t lim : Nat} (hf : f < 10) (ht : t < 9) (hl : lim ≤ 16) (hc : lim = 1 ∨ (f < 5 ∧ t < 5)) (K7 : (Nat → Nat → Int32) → Int32 → Option (Nat → Nat → Int32)) (K50 : (Nat → Nat → Int32) → Int32 → Int32 → Int32 → Option (Nat → Nat → Int32)) (v2 : Int32) :
    ∀ (j m n : Nat) (T : Nat → Nat → Int32) (acc : List Nat), 1 ≤ m → m + j = lim + 1 → j < n → LRep T P acc → (acc ++ ((List.range' m j).filter (fun n => legal R P f t n)).map (codeN f t)).length ≤ 156 →
    ∃ T', LRep T' P (acc ++ ((List.range' m j).filter (fun n => legal R P f t n)).map (codeN f t)) ∧ F_X4_listMoves_L73 r K7 K50 n T (nI f) v2 (nI t) (nI lim) (nI m) = K50 T' (nI f) v2 (nI (t + 1)) := by
  intro j
  induction j with
  | zero =>
    intro m n T acc h1 hm hn hT hlen
    obtain ⟨n, rfl⟩ : ∃ m, n = m + 1 := ⟨n - 1, by omega⟩
    refine ⟨T, by simpa using hT, ?_⟩
    show F_X4_listMoves_s73 r K7 K50 (F_X4_listMoves_L73 r K7 K50 n) _ _ _ _ _ _ = _
    unfold F_X4_listMoves_s73
    rw [if_pos (nI_lt (by omega) (by omega)), nI_add]
  | succ j ih =>
    intro m n T acc h1 hm hn hT hlen
    obtain ⟨n, rfl⟩ : ∃ m, n = m + 1 := ⟨n - 1, by omega⟩
    have e : (List.range' m (j + 1)) = m :: List.range' (m + 1) j := rfl
    rw [e] at hlen
    have ha : acc.length ≤ 156 := by simp only [List.length_append] at hlen; omega
    show ∃ T', LRep T' P _ ∧ F_X4_listMoves_s73 r K7 K50 (F_X4_listMoves_L73 r K7 K50 n) _ _ _ _ _ _ = _
    unfold F_X4_listMoves_s73
    rw [if_neg (nI_nlt (by omega) (by omega)), hT.2.1, if_neg (nI_ge (by omega) (by omega)), s_isMove hT.1 w hr hf ht h1 (by omega) (by omega), cal1_s, bi_if, nI_add, e]
    by_cases q : legal R P f t m = true
    · rw [List.filter_cons_of_pos (by simpa using q), List.map_cons] at hlen ⊢
      rw [if_pos q, s_codeOf, cal1_s, s_put (by omega) (by omega), cal1_s, bnd_s, bnd_s, setc_upd]
      rw [show acc ++ codeN f t m :: List.map (codeN f t) ((List.range' (m + 1) j).filter (fun n => legal R P f t n)) = (acc ++ [codeN f t m]) ++ List.map (codeN f t) ((List.range' (m + 1) j).filter (fun n => legal R P f t n)) by simp] at hlen ⊢
      have e2 : st2 T 3 acc.length (nI (codeN f t m)) 0 4 = nI acc.length := by rw [st2_s, if_neg (by omega)]; exact hT.2.1
      rw [e2, nI_add]
      exact ih (m + 1) n _ _ (by omega) (by omega) (by omega) (hT.push _) hlen
    · rw [List.filter_cons_of_neg (by simpa using q)] at hlen ⊢
      rw [if_neg q]
      exact ih (m + 1) n T acc (by omega) (by omega) (by omega) hT hlen
theorem range'_filter (p : Nat → Bool) {lim : Nat} (h : lim ≤ 16) : (List.range' 1 16).filter (fun n => decide (n ≤ lim) && p n) = (List.range' 1 lim).filter p := by
  have e : List.range' 1 16 = List.range' 1 lim ++ List.range' (1 + lim) (16 - lim) := by
    rw [List.range'_append_1]; congr 1; omega
  rw [e, List.filter_append]
  have e1 : (List.range' (1 + lim) (16 - lim)).filter (fun n => decide (n ≤ lim) && p n) = [] := by
    rw [List.filter_eq_nil_iff]
    intro a ha
    rw [List.mem_range'_1] at ha
    simp only [Bool.and_eq_true, decide_eq_true_eq, not_and]
    intro q; omega
  rw [e1, List.append_nil]
  apply List.filter_congr
  intro a ha
  rw [List.mem_range'_1] at ha
  simp [show a ≤ lim by omega]
theorem hid_lt {P : Pos} (ho : PosOk P) {f : Nat} (h : P.1 f ≠ []) : P.2.1 f < (P.1 f).length := by
  have h1 : 0 < (P.1 f).length := List.length_pos_iff.mpr h
  rcases ho.2.2.2.2.1 f with q | q <;> omega
theorem legal_run {R : Nat → Nat} {P : Pos} (ho : PosOk P) {f t n : Nat} (hf : f < 5) (ht : t < 5) (hn : 1 ≤ n) (h : legal R P f t n = true) : n ≤ runLen R (P.2.1 f) (P.1 f) := by
  unfold legal at h
  rw [if_neg (by omega)] at h
  cases e : P.1 f with
  | nil => rw [e] at h; cases h
  | cons c l =>
    rw [e] at h
    simp only [show ¬ t = 8 by omega, show ¬ (t = 5 ∨ t = 6) by omega, ht, hf, if_true, if_false, Bool.and_eq_true] at h
    have h1 := h.2.2.1
    have hh := hid_lt ho (show P.1 f ≠ [] by rw [e]; simp)
    rw [e] at hh
    rw [isRun_runLen _ n hn hh] at h1
    simpa using h1
theorem mvFT_lim {R : Nat → Nat} {P : Pos} (hR : RulesOk R) (ho : PosOk P) {f t : Nat} (h8 : f ≠ 8) (hn : f = 9 ∨ P.1 f ≠ []) : mvFT R P f t = ((List.range' 1 (if f < 5 ∧ t < 5 then runLen R (P.2.1 f) (P.1 f) else 1)).filter (fun n => legal R P f t n)).map (codeN f t) := by
  unfold mvFT
  have hl := ho.len f
  have hrl := runLen_le R (P.2.1 f) (P.1 f)
  rw [← range'_filter (fun n => legal R P f t n) (lim := if f < 5 ∧ t < 5 then runLen R (P.2.1 f) (P.1 f) else 1) (by split <;> omega)]
  congr 1
  apply List.filter_congr
  intro n hn1
  rw [List.mem_range'_1] at hn1
  by_cases q : legal R P f t n = true
  · rw [q, Bool.and_true, Bool.and_true]
    unfold canB
    by_cases c : f < 5 ∧ t < 5
    · have := legal_run ho c.1 c.2 hn1.1 q
      simp [h8, c.1, c.2, this]
    · rw [if_neg c]
      have : (decide (f < 5) && decide (t < 5)) = false := by
        rw [Bool.and_eq_false_iff]; simp only [decide_eq_false_iff_not]
        by_cases z : f < 5
        · exact Or.inr (fun y => c ⟨z, y⟩)
        · exact Or.inl z
      rw [this]
      simp only [ne_eq, h8, not_false_eq_true, decide_true, Bool.true_and, Bool.or_false]
      congr 1; simp only [eq_iff_iff]; omega
  · simp only [Bool.not_eq_true] at q
    rw [q, Bool.and_false, Bool.and_false]
theorem mvFT_nil {R : Nat → Nat} {P : Pos} {f t : Nat} (h9 : f ≠ 9) (hn : P.1 f = []) : mvFT R P f t = [] := by
  unfold mvFT
  rw [List.map_eq_nil_iff, List.filter_eq_nil_iff]
  intro n _
  unfold legal
  rw [if_neg h9, hn]; simp
theorem legal_t7 {R : Nat → Nat} {P : Pos} {f n : Nat} (h9 : f ≠ 9) : legal R P f 7 n = false := by
  unfold legal
  rw [if_neg h9]
  cases P.1 f <;> simp
/-- how many moves there are at most from a place to another one -/
def mvB (f t : Nat) : Nat := if f = 8 then 0 else if f = 9 then (if t = 7 then 1 else 0) else if t = 7 then 0 else if f = t then 0 else if f < 5 ∧ t < 5 then 6 else if (f = 5 ∨ f = 6) ∧ (t = 5 ∨ t = 6) then 0 else 1
theorem legal_same {R : Nat → Nat} {P : Pos} (ho : PosOk P) {f n : Nat} : legal R P f f n = true → f = 9 := by
  intro h
  unfold legal at h
  by_cases h9 : f = 9
  · exact h9
  · rw [if_neg h9] at h
    cases e : P.1 f with
    | nil => rw [e] at h; cases h
    | cons c l =>
      rw [e] at h
      have f8 : f ≠ 8 := (ho.place (show c ∈ P.1 f by rw [e]; simp)).2
      simp only [f8, if_false] at h
      by_cases f56 : f = 5 ∨ f = 6
      · simp only [f56, if_true] at h
        have : ¬ (f < 5 ∨ f = 7) := by omega
        simp [this] at h
      · simp only [f56, if_false] at h
        by_cases f5 : f < 5 <;> simp [f5] at h
theorem mvFT_le {R : Nat → Nat} {P : Pos} (hR : RulesOk R) (ho : PosOk P) (f t : Nat) : (mvFT R P f t).length ≤ mvB f t := by
  by_cases h8 : f = 8
  · subst h8; unfold mvFT canB; simp [mvB]
  by_cases hn : f = 9 ∨ P.1 f ≠ []
  · rw [mvFT_lim hR ho h8 hn, List.length_map]
    have h1 := List.length_filter_le (fun n => legal R P f t n) (List.range' 1 (if f < 5 ∧ t < 5 then runLen R (P.2.1 f) (P.1 f) else 1))
    rw [List.length_range'] at h1
    have none : (∀ n, legal R P f t n = false) → ((List.range' 1 (if f < 5 ∧ t < 5 then runLen R (P.2.1 f) (P.1 f) else 1)).filter (fun n => legal R P f t n)).length ≤ mvB f t := by
      intro q
      rw [List.filter_eq_nil_iff.mpr (fun a _ => by rw [q a]; simp)]; exact Nat.zero_le _
    by_cases h9 : f = 9
    · subst h9
      by_cases h7 : t = 7
      · subst h7; simpa [mvB] using h1
      · exact none (fun n => by unfold legal; simp [h7])
    · by_cases h7 : t = 7
      · subst h7; exact none (fun n => legal_t7 h9)
      · by_cases hft : f = t
        · subst hft
          exact none (fun n => by
            cases q : legal R P f f n with
            | false => rfl
            | true => exact absurd (legal_same ho q) h9)
        · by_cases c : f < 5 ∧ t < 5
          · rw [if_pos c] at h1 ⊢
            have h2 : runLen R (P.2.1 f) (P.1 f) ≤ 6 := by
              unfold RulesOk at hR
              cases e : P.1 f with
              | nil => simp [runLen]
              | cons x l => have := runLen_rank (by unfold RulesOk; exact hR) (P.2.1 f) l x; omega
            simp only [mvB, h8, h9, h7, hft, c, and_self, if_true, if_false]
            omega
          · rw [if_neg c] at h1 ⊢
            by_cases c2 : (f = 5 ∨ f = 6) ∧ (t = 5 ∨ t = 6)
            · refine Nat.le_trans (Nat.le_of_eq ?_) (Nat.zero_le _)
              rw [List.length_eq_zero_iff, List.filter_eq_nil_iff]
              intro n _
              unfold legal
              rw [if_neg h9]
              have h10 : ¬ (f < 5 ∨ f = 7) := by omega
              have h11 : t ≠ 8 := by omega
              cases P.1 f <;> simp [h11, c2.2, h10]
            · simp only [mvB, h8, h9, h7, hft, c, c2, if_false]
              exact h1
  · simp only [not_or, Classical.not_not] at hn
    rw [mvFT_nil hn.1 hn.2]; exact Nat.zero_le _
def sumL (l : List Nat) : Nat := l.foldr (· + ·) 0
theorem flatMap_le {α : Type} (g : α → List Nat) (b : α → Nat) (h : ∀ a, (g a).length ≤ b a) : ∀ l : List α, (l.flatMap g).length ≤ sumL (l.map b)
  | [] => Nat.le_refl _
  | a :: l => by
    have := flatMap_le g b h l
    have h1 := h a
    simp only [List.flatMap_cons, List.length_append, List.map_cons, sumL, List.foldr_cons] at this ⊢
    omega
theorem mvF_le {R : Nat → Nat} {P : Pos} (hR : RulesOk R) (ho : PosOk P) (f : Nat) : (mvF R P f).length ≤ sumL ((List.range 9).map (mvB f)) := flatMap_le _ _ (fun t => mvFT_le hR ho f t) _
theorem mvs_le {R : Nat → Nat} {P : Pos} (hR : RulesOk R) (ho : PosOk P) : (mvs R P).length ≤ 156 := by
  have h := flatMap_le (mvF R P) (fun f => sumL ((List.range 9).map (mvB f))) (fun f => mvF_le hR ho f) (List.range 10)
  exact Nat.le_trans h (by decide)
