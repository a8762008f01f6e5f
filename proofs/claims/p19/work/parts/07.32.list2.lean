/-! ===== the class's table: the whole list of moves; cards up ===== -/
theorem s_list_L50 {r : Nat → Int32} {R : Nat → Nat} {P : Pos} (w : WF R P) (hr : RR r R) {f : Nat} (hf : f < 10) (h8 : f ≠ 8) (hne : f = 9 ∨ P.1 f ≠ []) (K7 : (Nat → Nat → Int32) → Int32 → Option (Nat → Nat → Int32)) :
    ∀ (j g n : Nat) (T : Nat → Nat → Int32) (acc : List Nat), g + j = 9 → j < n → LRep T P acc → (acc ++ (List.range' g j).flatMap (mvFT R P f)).length ≤ 156 →
    ∃ T', LRep T' P (acc ++ (List.range' g j).flatMap (mvFT R P f)) ∧ F_X4_listMoves_L50 r K7 n T (nI f) (nI (if f < 5 then runLen R (P.2.1 f) (P.1 f) else 1)) (nI g) = K7 T' (nI (f + 1)) := by
  have ho := w.1
  have hl := ho.len f
  have hrl := runLen_le R (P.2.1 f) (P.1 f)
  intro j
  induction j with
  | zero =>
    intro g n T acc hg hn hT hlen
    obtain ⟨n, rfl⟩ : ∃ m, n = m + 1 := ⟨n - 1, by omega⟩
    refine ⟨T, by simpa using hT, ?_⟩
    show F_X4_listMoves_s50 r K7 (F_X4_listMoves_L50 r K7 n) _ _ _ _ = _
    unfold F_X4_listMoves_s50
    rw [if_pos (nI_lt (by omega) (by omega)), nI_add]
  | succ j ih =>
    intro g n T acc hg hn hT hlen
    obtain ⟨n, rfl⟩ : ∃ m, n = m + 1 := ⟨n - 1, by omega⟩
    have e : (List.range' g (j + 1)).flatMap (mvFT R P f) = mvFT R P f g ++ (List.range' (g + 1) j).flatMap (mvFT R P f) := rfl
    rw [e] at hlen ⊢
    rw [← List.append_assoc] at hlen ⊢
    have e2 := mvFT_lim (t := g) hr.2 ho h8 hne
    have hlen1 : (acc ++ mvFT R P f g).length ≤ 156 := by simp only [List.length_append] at hlen ⊢; omega
    have go : ∀ lim, lim = (if f < 5 ∧ g < 5 then runLen R (P.2.1 f) (P.1 f) else 1) → ∃ T', LRep T' P (acc ++ mvFT R P f g ++ (List.range' (g + 1) j).flatMap (mvFT R P f)) ∧ F_X4_listMoves_L73 r K7 (F_X4_listMoves_L50 r K7 n) FU T (nI f) (nI (if f < 5 then runLen R (P.2.1 f) (P.1 f) else 1)) (nI g) (nI lim) (nI 1) = K7 T' (nI (f + 1)) := by
      intro lim hlim
      rw [← hlim] at e2
      rw [e2] at hlen hlen1 ⊢
      obtain ⟨T1, h1, h2⟩ := s_list_L73 w hr hf (show g < 9 by omega) (lim := lim) (by rw [hlim]; split <;> omega) (by
        by_cases q : f < 5 ∧ g < 5
        · exact Or.inr q
        · rw [if_neg q] at hlim; exact Or.inl hlim) K7 (F_X4_listMoves_L50 r K7 n) (nI (if f < 5 then runLen R (P.2.1 f) (P.1 f) else 1)) lim 1 FU T acc (by omega) (by omega) (FU_gt (by rw [hlim]; split <;> omega)) hT hlen1
      rw [h2]
      exact ih (g + 1) n T1 _ (by omega) (by omega) h1 hlen
    show ∃ T', LRep T' P _ ∧ F_X4_listMoves_s50 r K7 (F_X4_listMoves_L50 r K7 n) _ _ _ _ = _
    unfold F_X4_listMoves_s50
    rw [if_neg (nI_nlt (by omega) (by omega)), s_isColumn (by omega), cal1_s, bi_if]
    by_cases g5 : g < 5
    · rw [if_pos (by simpa using g5)]
      exact go _ (by by_cases f5 : f < 5 <;> simp [f5, g5])
    · rw [if_neg (by simpa using g5)]
      exact go 1 (by simp [g5])
theorem mvF_nil {R : Nat → Nat} {P : Pos} {f : Nat} (h9 : f ≠ 9) (hn : P.1 f = []) : mvF R P f = [] := by
  unfold mvF
  rw [List.flatMap_eq_nil_iff]
  intro t _
  exact mvFT_nil h9 hn
theorem s_list_L7 {r : Nat → Int32} {R : Nat → Nat} {P : Pos} (w : WF R P) (hr : RR r R) :
    ∀ (j g n : Nat) (T : Nat → Nat → Int32) (acc : List Nat), g + j = 10 → j < n → LRep T P acc → (acc ++ (List.range' g j).flatMap (mvF R P)).length ≤ 156 →
    ∃ T', F_X4_listMoves_L7 r n T (nI g) = some T' ∧ LRep T' P (acc ++ (List.range' g j).flatMap (mvF R P)) := by
  have ho := w.1
  intro j
  induction j with
  | zero =>
    intro g n T acc hg hn hT hlen
    obtain ⟨n, rfl⟩ : ∃ m, n = m + 1 := ⟨n - 1, by omega⟩
    refine ⟨T, ?_, by simpa using hT⟩
    show F_X4_listMoves_s7 r (F_X4_listMoves_L7 r n) _ _ = _
    unfold F_X4_listMoves_s7
    rw [if_pos (nI_le (by omega) (by omega))]
  | succ j ih =>
    intro g n T acc hg hn hT hlen
    obtain ⟨n, rfl⟩ : ∃ m, n = m + 1 := ⟨n - 1, by omega⟩
    have e : (List.range' g (j + 1)).flatMap (mvF R P) = mvF R P g ++ (List.range' (g + 1) j).flatMap (mvF R P) := rfl
    rw [e] at hlen ⊢
    rw [← List.append_assoc] at hlen ⊢
    have hlen1 : (acc ++ mvF R P g).length ≤ 156 := by simp only [List.length_append] at hlen ⊢; omega
    have go : g ≠ 8 → (g = 9 ∨ P.1 g ≠ []) → ∃ T', F_X4_listMoves_b31 r (F_X4_listMoves_L7 r n) T (nI g) = some T' ∧ LRep T' P (acc ++ mvF R P g ++ (List.range' (g + 1) j).flatMap (mvF R P)) := by
      intro g8 hne
      unfold F_X4_listMoves_b31
      rw [s_isColumn (by omega), cal1_s, bi_if]
      have em : mvF R P g = (List.range' 0 9).flatMap (mvFT R P g) := by unfold mvF; rw [List.range_eq_range']
      rw [em] at hlen1 hlen ⊢
      obtain ⟨T1, h1, h2⟩ := s_list_L50 w hr (show g < 10 by omega) g8 hne (F_X4_listMoves_L7 r n) 9 0 FU T acc (by omega) (FU_gt (by omega)) hT hlen1
      by_cases g5 : g < 5
      · rw [if_pos (by simpa using g5), s_runOf hT.1 ho hr g5, cal1_s]
        rw [if_pos g5] at h2
        rw [h2]
        exact ih (g + 1) n T1 _ (by omega) (by omega) h1 hlen
      · rw [if_neg (by simpa using g5)]
        rw [if_neg g5] at h2
        rw [h2]
        exact ih (g + 1) n T1 _ (by omega) (by omega) h1 hlen
    show ∃ T', F_X4_listMoves_s7 r (F_X4_listMoves_L7 r n) _ _ = some T' ∧ _
    unfold F_X4_listMoves_s7
    rw [if_neg (nI_ge (by omega) (by omega)), s_topOf hT.1 (by omega), cal1_s]
    by_cases q : (P.1 g).isEmpty = true
    · rw [if_pos ((topI_neg1 _ (ho.1 g)).mpr q)]
      by_cases g9 : g = 9
      · rw [if_pos (by rw [g9])]; exact go (by omega) (Or.inl g9)
      · rw [if_neg (by rw [nI_eq (by omega) (by omega)]; exact g9), nI_add]
        have em := mvF_nil (R := R) g9 (List.isEmpty_iff.mp q)
        rw [em, List.append_nil] at hlen ⊢
        exact ih (g + 1) n T acc (by omega) (by omega) hT hlen
    · rw [if_neg (fun z => q ((topI_neg1 _ (ho.1 g)).mp z))]
      have hne : P.1 g ≠ [] := fun z => q (List.isEmpty_iff.mpr z)
      exact go (fun e8 => hne (ho.2.2.2.1 g (Or.inr e8))) (Or.inr hne)
theorem s_listMoves {T : Nat → Nat → Int32} {r : Nat → Int32} {R : Nat → Nat} {P : Pos} (h : TRep T P) (w : WF R P) (hr : RR r R) : ∃ T', F_X4_listMoves r T = some T' ∧ LRep T' P (mvs R P) := by
  unfold F_X4_listMoves
  rw [bnd_s]
  have h0 : LRep (st2 T 0 4 (nI 0)) P [] := by
    refine ⟨h.cong (by simp [st2_s]) (by simp [st2_s]) (by simp [st2_s]) (by simp [st2_s]), by simp [st2_s], ?_⟩
    intro i c hc; simp at hc
  have e : mvs R P = (List.range' 0 10).flatMap (mvF R P) := by unfold mvs; rw [List.range_eq_range']
  have hle := mvs_le hr.2 w.1
  rw [e] at hle ⊢
  have := s_list_L7 w hr 10 0 FU _ [] (by omega) (FU_gt (by omega)) h0 (by simpa using hle)
  simpa using this
theorem s_listedAt {T : Nat → Nat → Int32} {P : Pos} {acc : List Nat} (h : LRep T P acc) (hl : acc.length ≤ 156) {i : Nat} (hi : i < 2 ^ 31) : F_X4_listedAt T (nI i) = some (optI acc[i]?) := by
  unfold F_X4_listedAt
  rw [h.2.1]
  by_cases q : acc.length ≤ i
  · rw [if_pos (nI_le q hi), List.getElem?_eq_none q, optI_none]
  · rw [if_neg (nI_ge (by omega) (by omega)), s_at (by omega) (by omega), cal1_s]
    have e := List.getElem?_eq_getElem (show i < acc.length by omega)
    rw [h.2.2 i _ e, e, optI_some]
theorem s_cardsUp_L {T : Nat → Nat → Int32} {r : Nat → Int32} {R : Nat → Nat} {P : Pos} (h : TRep T P) (ho : PosOk P) (hr : RR r R) : ∀ (j k n : Nat), k + j = R 0 * R 1 → j < n → F_X4_cardsUp_L4 T r n (nI (cntB (fun c => decide (onN P c = 20)) k)) (nI k) = some (nI (cntB (fun c => decide (onN P c = 20)) (R 0 * R 1))) := by
  have hR := hr.2
  unfold RulesOk at hR
  intro j
  induction j with
  | zero =>
    intro k n hk hn
    obtain ⟨n, rfl⟩ : ∃ m, n = m + 1 := ⟨n - 1, by omega⟩
    show F_X4_cardsUp_s4 T r (F_X4_cardsUp_L4 T r n) _ _ = _
    unfold F_X4_cardsUp_s4
    rw [s_cards hr, cal1_s, if_pos (nI_le (by omega) (by omega)), show k = R 0 * R 1 by omega]
  | succ j ih =>
    intro k n hk hn
    obtain ⟨n, rfl⟩ : ∃ m, n = m + 1 := ⟨n - 1, by omega⟩
    show F_X4_cardsUp_s4 T r (F_X4_cardsUp_L4 T r n) _ _ = _
    unfold F_X4_cardsUp_s4
    have ih' := ih (k + 1) n (by omega) (by omega)
    have e : cntB (fun c => decide (onN P c = 20)) (k + 1) = cntB (fun c => decide (onN P c = 20)) k + if decide (onN P k = 20) = true then 1 else 0 := rfl
    rw [e] at ih'
    rw [s_cards hr, cal1_s, if_neg (nI_ge (by omega) (by omega)), s_isUp h ho (by omega), cal1_s, bi_if, nI_add, nI_add]
    by_cases q : onN P k = 20
    · simp only [q, decide_true, if_true] at ih' ⊢; exact ih'
    · simp only [q, decide_false, Bool.false_eq_true, if_false, Nat.add_zero] at ih' ⊢; exact ih'
def sumH (h : Nat → Nat) : Nat → Nat
  | 0 => 0
  | n + 1 => sumH h n + h n
theorem cntB_add (p : Nat → Bool) (a : Nat) : ∀ b, cntB p (a + b) = cntB p a + cntB (fun j => p (a + j)) b
  | 0 => rfl
  | b + 1 => by
    have := cntB_add p a b
    show cntB p (a + b) + (if p (a + b) = true then 1 else 0) = cntB p a + (cntB (fun j => p (a + j)) b + (if p (a + b) = true then 1 else 0))
    omega
theorem cntB_lt (h : Nat) : ∀ n, h ≤ n → cntB (fun j => decide (j < h)) n = h := by
  have small : ∀ m, m ≤ h → cntB (fun j => decide (j < h)) m = m := by
    intro m
    induction m with
    | zero => intro _; rfl
    | succ m ih =>
      intro hm
      show cntB (fun j => decide (j < h)) m + (if decide (m < h) = true then 1 else 0) = m + 1
      rw [ih (by omega), if_pos (by simp; omega)]
  intro n hn
  induction n with
  | zero => rw [show h = 0 by omega]; rfl
  | succ n ih =>
    rcases Nat.lt_or_ge n h with q | q
    · have : h = n + 1 := by omega
      rw [← this]; exact small h (Nat.le_refl _)
    · show cntB (fun j => decide (j < h)) n + (if decide (n < h) = true then 1 else 0) = h
      rw [ih q, if_neg (by simp; omega)]; rfl
theorem cntB_congr {p q : Nat → Bool} : ∀ {n : Nat}, (∀ k, k < n → p k = q k) → cntB p n = cntB q n
  | 0, _ => rfl
  | n + 1, h => by
    show cntB p n + _ = cntB q n + _
    rw [cntB_congr (fun k hk => h k (by omega)), h n (by omega)]
theorem cntUp {R : Nat → Nat} {P : Pos} (w : WF R P) (hR : RulesOk R) : cntB (fun c => decide (onN P c = 20)) (R 0 * R 1) = sumH P.2.2.1 (R 0) := by
  have hR1 := hR.2.2.1
  have go : ∀ s, s ≤ R 0 → cntB (fun c => decide (onN P c = 20)) (s * R 1) = sumH P.2.2.1 s := by
    intro s
    induction s with
    | zero => intro _; rw [Nat.zero_mul]; rfl
    | succ s ih =>
      intro hs
      rw [Nat.succ_mul, cntB_add, ih (by omega)]
      show _ = sumH P.2.2.1 s + P.2.2.1 s
      congr 1
      rw [← cntB_lt (P.2.2.1 s) (R 1) (w.2.2.2.2.2.1 s)]
      apply cntB_congr
      intro k hk
      have h1 : s * R 1 + k < R 0 * R 1 := by
        have := Nat.mul_le_mul_right (R 1) (show s + 1 ≤ R 0 by omega)
        rw [Nat.succ_mul] at this; omega
      have e1 : (s * R 1 + k) / R 1 = s := by
        rw [Nat.mul_comm, Nat.mul_add_div (by omega), Nat.div_eq_of_lt hk, Nat.add_zero]
      have e2 : (s * R 1 + k) % R 1 = k := by
        rw [Nat.mul_comm, Nat.mul_add_mod, Nat.mod_eq_of_lt hk]
      have := w.on20 h1
      rw [e1, e2] at this
      simp only [this]
  exact go (R 0) (Nat.le_refl _)
/-- how many cards are up -/
def upN (P : Pos) : Nat := P.2.2.1 0 + P.2.2.1 1 + P.2.2.1 2 + P.2.2.1 3
theorem sumH_up {R : Nat → Nat} {P : Pos} (w : WF R P) (hR : RulesOk R) : sumH P.2.2.1 (R 0) = upN P := by
  have h0 := w.2.2.2.2.2.2.1
  unfold RulesOk at hR
  unfold upN
  rcases (show R 0 = 1 ∨ R 0 = 2 ∨ R 0 = 3 ∨ R 0 = 4 by omega) with q | q | q | q
  · rw [q, h0 1 (by omega), h0 2 (by omega), h0 3 (by omega)]; simp [sumH]
  · rw [q, h0 2 (by omega), h0 3 (by omega)]; simp [sumH]
  · rw [q, h0 3 (by omega)]; simp [sumH]
  · rw [q]; simp [sumH]
theorem upN_le {R : Nat → Nat} {P : Pos} (w : WF R P) (hR : RulesOk R) : upN P ≤ R 0 * R 1 := by
  rw [← sumH_up w hR, ← cntUp w hR]; exact cntB_le _ _
theorem s_cardsUp {T : Nat → Nat → Int32} {r : Nat → Int32} {R : Nat → Nat} {P : Pos} (h : TRep T P) (w : WF R P) (hr : RR r R) : F_X4_cardsUp T r = some (nI (upN P)) := by
  have hR := hr.2
  unfold RulesOk at hR
  unfold F_X4_cardsUp
  rw [← sumH_up w hr.2, ← cntUp w hr.2]
  exact s_cardsUp_L h w.1 hr (R 0 * R 1) 0 FU (by omega) (FU_gt (by omega))
def wonB (R : Nat → Nat) (P : Pos) : Bool := decide (upN P = R 0 * R 1)
theorem s_isWon {T : Nat → Nat → Int32} {r : Nat → Int32} {R : Nat → Nat} {P : Pos} (h : TRep T P) (w : WF R P) (hr : RR r R) : F_X4_isWon T r = some (bi (wonB R P)) := by
  have hR := hr.2
  have hle := upN_le w hr.2
  unfold RulesOk at hR
  unfold F_X4_isWon wonB
  rw [s_cardsUp h w hr, cal1_s, s_cards hr, cal1_s]
  by_cases q : upN P = R 0 * R 1
  · rw [if_pos (by rw [q]), zb1]; simp [q, bi]
  · rw [if_neg (by rw [nI_eq (by omega) (by omega)]; exact q), zb0]; simp [q, bi]
