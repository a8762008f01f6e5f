/-! ===== the class's table: what is a move ===== -/
theorem hidB_at {P : Pos} (ho : PosOk P) {p k c : Nat} (hp : p < 5) (hk : (P.1 p)[k]? = some c) : hidB P c = decide ((P.1 p).length - k ≤ P.2.1 p) := by
  have hm : c ∈ P.1 p := List.mem_of_getElem? hk
  have hlt : k < (P.1 p).length := (List.getElem?_eq_some_iff.mp hk).1
  unfold hidB
  rw [Bool.eq_iff_iff, List.any_eq_true]
  simp only [decide_eq_true_eq]
  constructor
  · rintro ⟨q, -, hq⟩
    have hq2 : c ∈ (P.1 q).drop ((P.1 q).length - P.2.1 q) := by simpa using hq
    have e : q = p := ho.2.2.1 q p c (List.mem_of_mem_drop hq2) hm
    subst e
    obtain ⟨i, hi, e2⟩ := List.getElem_of_mem hq2
    rw [List.getElem_drop] at e2
    have hi2 : (P.1 q).length - P.2.1 q + i < (P.1 q).length := by simp only [List.length_drop] at hi; omega
    have e3 : (P.1 q)[(P.1 q).length - P.2.1 q + i]? = some c := by rw [List.getElem?_eq_getElem hi2, e2]
    have := (List.getElem?_inj (List.getElem?_eq_some_iff.mp e3).1 (ho.2.1 q)).mp (e3.trans hk.symm)
    omega
  · intro h
    refine ⟨p, by simpa using hp, ?_⟩
    have e3 : ((P.1 p).drop ((P.1 p).length - P.2.1 p))[k - ((P.1 p).length - P.2.1 p)]? = some c := by
      rw [List.getElem?_drop, show (P.1 p).length - P.2.1 p + (k - ((P.1 p).length - P.2.1 p)) = k by omega, hk]
    simpa using List.mem_of_getElem? e3
theorem hidB_off {P : Pos} (ho : PosOk P) {p c : Nat} (hp : 5 ≤ p) (hm : c ∈ P.1 p) : hidB P c = false := by
  unfold hidB
  rw [List.any_eq_false]
  intro q hq
  have hq5 : q < 5 := by simpa using hq
  intro h
  have hq2 : c ∈ (P.1 q).drop ((P.1 q).length - P.2.1 q) := by simpa using h
  have := ho.2.2.1 q p c (List.mem_of_mem_drop hq2) hm
  omega
theorem s_runOf_L {T : Nat → Nat → Int32} {r : Nat → Int32} {R : Nat → Nat} {P : Pos} (h : TRep T P) (ho : PosOk P) (hr : RR r R) {p : Nat} (hp : p < 5) : ∀ (j k n c : Nat), k + 1 + j = (P.1 p).length → j < n → (P.1 p)[k]? = some c → F_X4_runOf_L24 T r n (nI c) (nI (k + 1)) (optI (P.1 p)[k + 1]?) = some (nI (k + runLen R (P.2.1 p) ((P.1 p).drop k))) := by
  have hl := ho.len p
  intro j
  induction j with
  | zero =>
    intro k n c hk hn hc
    obtain ⟨n, rfl⟩ : ∃ m, n = m + 1 := ⟨n - 1, by omega⟩
    show F_X4_runOf_s24 T r (F_X4_runOf_L24 T r n) _ _ _ = _
    unfold F_X4_runOf_s24
    have hlt : k < (P.1 p).length := by omega
    rw [List.getElem?_eq_none (by omega), optI_none, if_pos rfl]
    have e : (P.1 p).drop k = [c] := by
      rw [List.drop_eq_getElem_cons hlt, List.drop_eq_nil_of_le (by omega)]
      rw [List.getElem?_eq_getElem hlt] at hc
      rw [Option.some.inj hc]
    rw [e]; rfl
  | succ j ih =>
    intro k n c hk hn hc
    obtain ⟨n, rfl⟩ : ∃ m, n = m + 1 := ⟨n - 1, by omega⟩
    show F_X4_runOf_s24 T r (F_X4_runOf_L24 T r n) _ _ _ = _
    unfold F_X4_runOf_s24
    have hlt : k < (P.1 p).length := by omega
    have hlt1 : k + 1 < (P.1 p).length := by omega
    have hd : (P.1 p)[k + 1]? = some (P.1 p)[k + 1] := List.getElem?_eq_getElem hlt1
    have hd16 := ho.1 p _ (List.mem_of_getElem? hd)
    have hc16 := ho.1 p _ (List.mem_of_getElem? hc)
    generalize (P.1 p)[k + 1] = d at hd hd16
    have e1 : (P.1 p).drop (k + 1) = d :: (P.1 p).drop (k + 2) := by
      rw [List.drop_eq_getElem_cons hlt1]
      rw [List.getElem?_eq_getElem hlt1] at hd
      rw [Option.some.inj hd]
    have e : (P.1 p).drop k = c :: d :: (P.1 p).drop (k + 2) := by
      rw [List.drop_eq_getElem_cons hlt, e1]
      rw [List.getElem?_eq_getElem hlt] at hc
      rw [Option.some.inj hc]
    rw [hd, optI_some, if_neg (by rw [nI_negone (by omega)]; exact id), if_neg (nI_ge (by omega) (by omega)), s_liesHidden h hd16, cal1_s, hidB_at ho hp hd, s_isFitting hr hc16 hd16, cal1_s, s_under h ho hd, cal1_s, nI_add]
    have ih' := ih (k + 1) n d (by omega) (by omega) hd
    rw [ih']
    have hle : (d :: (P.1 p).drop (k + 2)).length = (P.1 p).length - (k + 1) := by rw [← e1, List.length_drop]
    have er : runLen R (P.2.1 p) (c :: d :: (P.1 p).drop (k + 2)) = if P.2.1 p < (d :: (P.1 p).drop (k + 2)).length ∧ fitB R c d = true then 1 + runLen R (P.2.1 p) (d :: (P.1 p).drop (k + 2)) else 1 := rfl
    rw [e, er, e1, hle]
    by_cases hv : (P.1 p).length - (k + 1) ≤ P.2.1 p
    · rw [if_neg (by rw [bi_eq0]; simp [hv]), if_neg (fun q => by omega)]
    · rw [if_pos (by rw [bi_eq0]; simp [hv])]
      by_cases hf : fitB R c d = true
      · rw [if_neg (by rw [bi_eq0]; simp [hf]), if_pos ⟨by omega, hf⟩]
        congr 2; omega
      · rw [if_pos (by rw [bi_eq0]; simpa using hf), if_neg (fun q => hf q.2)]
theorem s_runOf {T : Nat → Nat → Int32} {r : Nat → Int32} {R : Nat → Nat} {P : Pos} (h : TRep T P) (ho : PosOk P) (hr : RR r R) {p : Nat} (hp : p < 5) : F_X4_runOf T r (nI p) = some (nI (runLen R (P.2.1 p) (P.1 p))) := by
  have hl := ho.len p
  unfold F_X4_runOf F_X4_runOf_b16
  rw [s_topOf h (by omega), cal1_s]
  cases hc : P.1 p with
  | nil =>
    rw [show topI [] = (-1 : Int32) from rfl, if_pos rfl, s_under_none, cal1_s]
    show F_X4_runOf_s24 T r (F_X4_runOf_L24 T r 4999) _ _ _ = _
    unfold F_X4_runOf_s24
    rw [if_pos rfl]; rfl
  | cons c l =>
    have h0 : (P.1 p)[0]? = some c := by rw [hc]; rfl
    have hc16 := ho.1 p _ (List.mem_of_getElem? h0)
    rw [show topI (c :: l) = nI c from rfl, if_neg (by rw [nI_negone (by omega)]; exact id), s_under h ho h0, cal1_s]
    have e := s_runOf_L h ho hr hp ((P.1 p).length - 1) 0 FU c (by rw [hc]; simp; omega) (FU_gt (by omega)) h0
    rw [show nI (0 + 1) = nI 1 from rfl] at e
    rw [e, hc]
    congr 2
    simp
theorem cntB_le (p : Nat → Bool) : ∀ n, cntB p n ≤ n
  | 0 => Nat.le_refl _
  | n + 1 => by have := cntB_le p n; unfold cntB; split <;> omega
theorem topI_neg1 (l : List Nat) (h : ∀ c ∈ l, c < 16) : (topI l = -1) ↔ l.isEmpty = true := by
  cases l with
  | nil => simp [topI]
  | cons c l => have := h c (by simp); simp only [topI, List.isEmpty_cons, nI_negone (show c < 2 ^ 31 by omega)]; simp
theorem s_mostTo_L42 {T : Nat → Nat → Int32} {r : Nat → Int32} {R : Nat → Nat} {P : Pos} (h : TRep T P) (ho : PosOk P) (hr : RR r R) {t : Nat} (ht : t < 5) : ∀ (j k n m : Nat), k + j = R 2 → j < n → m ≤ 3 * 2 ^ k → F_X4_mostTo_L42 T r n (nI t) (nI (m * 2 ^ cntB (fun c => decide (c ≠ t) && (P.1 c).isEmpty) k)) (nI k) = some (nI (m * 2 ^ cntB (fun c => decide (c ≠ t) && (P.1 c).isEmpty) (R 2))) := by
  have hR := hr.2
  unfold RulesOk at hR
  intro j
  induction j with
  | zero =>
    intro k n m hk hn hm
    obtain ⟨n, rfl⟩ : ∃ m, n = m + 1 := ⟨n - 1, by omega⟩
    show F_X4_mostTo_s42 T r (F_X4_mostTo_L42 T r n) _ _ _ = _
    unfold F_X4_mostTo_s42
    rw [hr.1 2 (by omega), if_pos (nI_le (by omega) (by omega)), show k = R 2 by omega]
  | succ j ih =>
    intro k n m hk hn hm
    obtain ⟨n, rfl⟩ : ∃ m, n = m + 1 := ⟨n - 1, by omega⟩
    show F_X4_mostTo_s42 T r (F_X4_mostTo_L42 T r n) _ _ _ = _
    unfold F_X4_mostTo_s42 F_X4_mostTo_b73
    have ih' := ih (k + 1) n m (by omega) (by omega) (by rw [Nat.pow_succ]; omega)
    rw [hr.1 2 (by omega), if_neg (nI_ge (by omega) (by omega)), s_topOf h (by omega), cal1_s, nI_add, pk_mul, pk_mul]
    have e : cntB (fun c => decide (c ≠ t) && (P.1 c).isEmpty) (k + 1) = cntB (fun c => decide (c ≠ t) && (P.1 c).isEmpty) k + if (decide (k ≠ t) && (P.1 k).isEmpty) = true then 1 else 0 := rfl
    rw [e] at ih'
    by_cases q : k = t
    · rw [if_pos (by rw [q]), Nat.mul_one]
      simpa [q] using ih'
    · rw [if_neg (by rw [nI_eq (by omega) (by omega)]; exact q)]
      by_cases q2 : (P.1 k).isEmpty = true
      · rw [if_pos ((topI_neg1 _ (ho.1 k)).mpr q2)]
        simp only [q, q2, ne_eq, not_false_eq_true, decide_true, Bool.and_self, if_true] at ih'
        rw [Nat.mul_assoc, ← Nat.pow_succ]
        exact ih'
      · rw [if_neg (fun z => q2 ((topI_neg1 _ (ho.1 k)).mp z)), Nat.mul_one]
        simp only [q2, Bool.and_false, Bool.false_eq_true, if_false, Nat.add_zero] at ih'
        exact ih'
theorem s_mostTo_L4 {T : Nat → Nat → Int32} {r : Nat → Int32} {R : Nat → Nat} {P : Pos} (h : TRep T P) (ho : PosOk P) (hr : RR r R) {t : Nat} (ht : t < 5) : ∀ (j k n : Nat), k + j = R 3 → j < n → F_X4_mostTo_L4 T r n (nI t) (nI (1 + cntB (fun k => (P.1 (5 + k)).isEmpty) k)) (nI (5 + k)) = some (nI (most R P t)) := by
  have hR := hr.2
  unfold RulesOk at hR
  intro j
  induction j with
  | zero =>
    intro k n hk hn
    obtain ⟨n, rfl⟩ : ∃ m, n = m + 1 := ⟨n - 1, by omega⟩
    show F_X4_mostTo_s4 T r (F_X4_mostTo_L4 T r n) _ _ _ = _
    unfold F_X4_mostTo_s4
    have hk2 : k = R 3 := by omega
    subst hk2
    rw [hr.1 3 (by omega), nI_add, if_pos (nI_le (by omega) (by omega))]
    have h1 := cntB_le (fun k => (P.1 (5 + k)).isEmpty) (R 3)
    have := s_mostTo_L42 h ho hr ht (R 2) 0 FU (1 + cntB (fun k => (P.1 (5 + k)).isEmpty) (R 3)) (by omega) (FU_gt (by omega)) (by omega)
    simpa [cntB, most] using this
  | succ j ih =>
    intro k n hk hn
    obtain ⟨n, rfl⟩ : ∃ m, n = m + 1 := ⟨n - 1, by omega⟩
    show F_X4_mostTo_s4 T r (F_X4_mostTo_L4 T r n) _ _ _ = _
    unfold F_X4_mostTo_s4 F_X4_mostTo_b32
    have ih' := ih (k + 1) n (by omega) (by omega)
    rw [hr.1 3 (by omega), nI_add, if_neg (nI_ge (by omega) (by omega)), s_topOf h (by omega), cal1_s, nI_add, nI_add, nI_add]
    have e : cntB (fun k => (P.1 (5 + k)).isEmpty) (k + 1) = cntB (fun k => (P.1 (5 + k)).isEmpty) k + if (P.1 (5 + k)).isEmpty = true then 1 else 0 := rfl
    rw [e] at ih'
    by_cases q2 : (P.1 (5 + k)).isEmpty = true
    · rw [if_pos ((topI_neg1 _ (ho.1 _)).mpr q2)]
      simp only [q2, if_true] at ih'
      exact ih'
    · rw [if_neg (fun z => q2 ((topI_neg1 _ (ho.1 _)).mp z))]
      simp only [q2, Bool.false_eq_true, if_false, Nat.add_zero] at ih'
      exact ih'
theorem s_mostTo {T : Nat → Nat → Int32} {r : Nat → Int32} {R : Nat → Nat} {P : Pos} (h : TRep T P) (ho : PosOk P) (hr : RR r R) {t : Nat} (ht : t < 5) : F_X4_mostTo T r (nI t) = some (nI (most R P t)) := by
  have hR := hr.2
  unfold RulesOk at hR
  exact s_mostTo_L4 h ho hr ht (R 3) 0 FU (by omega) (FU_gt (by omega))
theorem most_le {R : Nat → Nat} (hR : RulesOk R) (P : Pos) (t : Nat) : most R P t ≤ 96 := by
  unfold RulesOk at hR
  unfold most
  have h1 := cntB_le (fun k => (P.1 (5 + k)).isEmpty) (R 3)
  have h2 := cntB_le (fun c => decide (c ≠ t) && (P.1 c).isEmpty) (R 2)
  have h3 : 2 ^ cntB (fun c => decide (c ≠ t) && (P.1 c).isEmpty) (R 2) ≤ 2 ^ 5 := Nat.pow_le_pow_right (by omega) (by omega)
  exact Nat.le_trans (Nat.mul_le_mul (by omega : _ ≤ 3) h3) (by omega)
