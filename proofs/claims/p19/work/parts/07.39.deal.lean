/-! ===== deals, laid whole; cards told; safe moves ===== -/
theorem s_lay_L {r : Nat → Int32} {R : Nat → Nat} (hr : RR r R) {D : Nat → Nat → Int32} {cs : List Nat} (hD : DRep D cs) (hl : cs.length = R 0 * R 1) (hn : cs.Nodup) (h16 : ∀ c, c ∈ cs → c < 16) : ∀ (j k n : Nat) (T : Nat → Nat → Int32) (P : Pos), k + j = cs.length → j < n → TRep T P → LayInv R P (cs.take k) →
    ∃ T', F_X4_lay_L40 r D n T (nI (R 0 * R 1 - R 6)) (nI k) = some T' ∧ TRep T' (layP R (cs.drop k) k P) ∧ LayInv R (layP R (cs.drop k) k P) cs := by
  have hR := hr.2
  unfold RulesOk at hR
  intro j
  induction j with
  | zero =>
    intro k n T P hk hn2 hT hI
    obtain ⟨n, rfl⟩ : ∃ q, n = q + 1 := ⟨n - 1, by omega⟩
    rw [List.take_of_length_le (by omega)] at hI
    rw [List.drop_eq_nil_of_le (by omega)]
    refine ⟨T, ?_, hT, hI⟩
    show F_X4_lay_s40 r D (F_X4_lay_L40 r D n) _ _ _ = _
    unfold F_X4_lay_s40
    rw [s_cards hr, cal1_s, if_pos (nI_le (by omega) (by omega))]
  | succ j ih =>
    intro k n T P hk hn2 hT hI
    obtain ⟨n, rfl⟩ : ∃ q, n = q + 1 := ⟨n - 1, by omega⟩
    have hlt : k < cs.length := by omega
    have hck : cs[k]? = some cs[k] := List.getElem?_eq_getElem hlt
    have hc16 := h16 _ (List.mem_of_getElem? hck)
    have hpl := placeA_lt hr.2 k
    have hnot : cs[k] ∉ cs.take k := by
      intro hm
      obtain ⟨i, hi, e⟩ := List.getElem_of_mem hm
      rw [List.length_take] at hi
      rw [List.getElem_take] at e
      have := (List.getElem?_inj (show i < cs.length by omega) hn).mp (show cs[i]? = cs[k]? by rw [List.getElem?_eq_getElem (by omega), hck, e])
      omega
    have hI2 := putP_inv hr.2 hI hc16 hnot hpl.1 hpl.2
    have et : cs.take (k + 1) = cs.take k ++ [cs[k]] := by simp
    rw [← et] at hI2
    have hstep := fun K v3 => s_lay_step hT hr hI hc16 hnot hpl.1 hpl.2 hD (show k < 16 by omega) hck K v3
    rw [List.drop_eq_getElem_cons hlt]
    show ∃ T', F_X4_lay_s40 r D (F_X4_lay_L40 r D n) _ _ _ = _ ∧ _
    unfold F_X4_lay_s40
    rw [s_cards hr, cal1_s, if_neg (nI_ge (by omega) (by omega))]
    obtain ⟨T1, a1, a2⟩ := hstep (F_X4_lay_L40 r D n) (nI (R 0 * R 1 - R 6))
    have fin : ∃ T', F_X4_lay_b74 r D (F_X4_lay_L40 r D n) T (nI (R 0 * R 1 - R 6)) (nI k) (nI (placeA R k)) = some T' ∧ TRep T' (layP R (cs[k] :: cs.drop (k + 1)) k P) ∧ LayInv R (layP R (cs[k] :: cs.drop (k + 1)) k P) cs := by
      rw [a2]
      exact ih (k + 1) n T1 _ (by omega) (by omega) a1 hI2
    by_cases q : k < R 0 * R 1 - R 6
    · rw [if_neg (nI_ge q (by omega)), hr.1 2 (by omega), if_neg (nI_ge (by omega) (by omega)), nz_n _ (by omega) (by omega), pk_rem (by omega) (by omega) (by omega)]
      have : placeA R k = k % R 2 := by unfold placeA; rw [if_pos q]
      rw [← this]; exact fin
    · rw [if_pos (nI_le (by omega) (by omega))]
      have : placeA R k = 9 := by unfold placeA; rw [if_neg q]
      rw [← this]; exact fin
theorem emptyP_inv {R : Nat → Nat} : LayInv R emptyP [] := by
  refine ⟨⟨fun p c h => (by cases h), fun p => List.nodup_nil, fun p q c h => (by cases h), fun p _ => rfl, fun p => Or.inl rfl, fun p _ => rfl⟩, fun p _ => ?_, fun p c h => (by cases h), fun c h => (by cases h), fun p _ _ => rfl, fun p _ _ => rfl, rfl, rfl⟩
  show 0 = if R 8 = 1 then 0 - 1 else 0
  split <;> rfl
theorem s_lay {r : Nat → Int32} {R : Nat → Nat} (hr : RR r R) {D : Nat → Nat → Int32} {mc x : Nat} (hD : DRep D (cardsA R mc x)) (T : Nat → Nat → Int32) : ∃ T', F_X4_lay r D T = some T' ∧ TRep T' (dealP R mc x) ∧ LayInv R (dealP R mc x) (cardsA R mc x) := by
  unfold F_X4_lay
  rw [bnd_s, bnd_s]
  obtain ⟨f1, a1, a2⟩ := s_fill (n := 16) (by omega) (nI 20) (st2 (st2 T 0 5 (nI 0)) 0 6 (nI 0) 1)
  rw [a1, cal1_s, bnd_s]
  obtain ⟨f2, b1, b2⟩ := s_fill (n := 10) (by omega) (-1) (setc (st2 (st2 T 0 5 (nI 0)) 0 6 (nI 0)) 1 f1 2)
  rw [b1, cal1_s, bnd_s, s_inColumns hr, cal1_s]
  have hT : TRep (setc (setc (st2 (st2 T 0 5 (nI 0)) 0 6 (nI 0)) 1 f1) 2 f2) emptyP := by
    refine ⟨fun p hp => ?_, fun c hc => ?_, ⟨0, by omega, ?_, fun c _ => ?_⟩, ?_, by show 0 ≤ 2; omega⟩
    · simp [setc_s, b2, hp, emptyP, topI]
    · rw [onN_out (fun p _ h => (by cases h))]; simp [setc_s, a2, hc]
    · simp [setc_s, st2_s]
    · rw [Nat.zero_testBit]; rfl
    · simp [setc_s, st2_s, emptyP]
  have h16 : R 0 * R 1 ≤ 16 := by have := hr.2; unfold RulesOk at this; omega
  have := s_lay_L hr hD (cardsA_len R mc x) (cardsA_nodup R mc x) (fun c hc => by have := cardsA_lt hc; omega) (R 0 * R 1) 0 FU _ emptyP (by rw [cardsA_len]; omega) (FU_gt (by omega)) hT emptyP_inv
  exact this
theorem layP_9 {R : Nat → Nat} (hR : RulesOk R) : ∀ (cs : List Nat) (k : Nat) (P : Pos), ((layP R cs k P).1 9).length ≤ (P.1 9).length + (cs.length - (R 0 * R 1 - R 6 - k))
  | [], k, P => by simp [layP]
  | c :: cs, k, P => by
    have h := layP_9 hR cs (k + 1) (putP R P c (placeA R k))
    show ((layP R cs (k + 1) (putP R P c (placeA R k))).1 9).length ≤ _
    refine Nat.le_trans h ?_
    by_cases q : k < R 0 * R 1 - R 6
    · have e : (putP R P c (placeA R k)).1 9 = P.1 9 := by
        have h2 : placeA R k = k % R 2 := by unfold placeA; rw [if_pos q]
        have h3 : k % R 2 < R 2 := Nat.mod_lt _ (by unfold RulesOk at hR; omega)
        unfold RulesOk at hR
        unfold putP; dsimp only; rw [if_neg (by omega)]
      rw [e]; simp only [List.length_cons]; omega
    · have e : ((putP R P c (placeA R k)).1 9).length = (P.1 9).length + 1 := by
        have h2 : placeA R k = 9 := by unfold placeA; rw [if_neg q]
        rw [h2]; unfold putP; dsimp only; rw [if_pos rfl]; rfl
      rw [e]; simp only [List.length_cons]; omega
theorem wf_deal {R : Nat → Nat} (hR : RulesOk R) {mc x : Nat} (h : LayInv R (dealP R mc x) (cardsA R mc x)) : WF R (dealP R mc x) := by
  obtain ⟨ho, h1, h2, h3, h4, h5, h6, h7⟩ := h
  have h9 := layP_9 hR (cardsA R mc x) 0 emptyP
  rw [cardsA_len] at h9
  have hR' := hR
  unfold RulesOk at hR
  refine ⟨ho, h5, ?_, ?_, ?_, ?_, ?_, ?_, ?_⟩
  · intro k hk
    rw [h4 (5 + k) (by omega) (by omega)]
    exact ⟨Nat.zero_le _, fun _ => rfl⟩
  · intro p c hc
    refine ⟨cardsA_lt (h2 p c hc), ?_⟩
    rw [h6]; exact Nat.zero_le _
  · intro c hc _; exact h3 c (cardsA_mem hc)
  · intro s; rw [h6]; exact Nat.zero_le _
  · intro s _; rw [h6]
  · rw [h4 7 (by omega) (by omega)]
    have : ((dealP R mc x).1 9).length ≤ R 6 := by
      refine Nat.le_trans h9 ?_
      show 0 + _ ≤ _
      omega
    simpa using this
  · rw [h7]; exact Nat.zero_le _
def seenA (P : Pos) (c d : Nat) : Int32 := if d < (P.1 c).length then (if d < P.2.1 c then -2 else optI (P.1 c)[(P.1 c).length - 1 - d]?) else -1
theorem s_seen {T : Nat → Nat → Int32} {P : Pos} (h : TRep T P) (ho : PosOk P) {c d : Nat} (hc : c < 5) (hd : d < 2 ^ 31) : F_X4_seenInColumn T (nI c) (nI d) = some (seenA P c d) := by
  have hl := ho.len c
  unfold F_X4_seenInColumn seenA
  rw [s_heightOf h ho (by omega), cal1_s]
  by_cases q : d < (P.1 c).length
  · rw [if_pos (nI_lt q (by omega)), if_pos q, pk_sub (by omega), pk_sub (by omega), s_fromTop h ho (by omega) (by omega), cal1_s]
    have e : (P.1 c)[(P.1 c).length - 1 - d]? = some (P.1 c)[(P.1 c).length - 1 - d] := List.getElem?_eq_getElem (by omega)
    generalize (P.1 c)[(P.1 c).length - 1 - d] = x at e
    have hx := ho.1 c x (List.mem_of_getElem? e)
    rw [e, optI_some, s_liesHidden h hx, cal1_s, hidB_at ho hc e, bi_if]
    by_cases q2 : d < P.2.1 c
    · rw [if_pos q2, if_pos (by simp only [decide_eq_true_eq]; omega)]
    · rw [if_neg q2, if_neg (by simp only [decide_eq_true_eq]; omega)]
  · rw [if_neg (nI_nlt (by omega) (by omega)), if_neg q]
theorem s_highest_L {T : Nat → Nat → Int32} {r : Nat → Int32} {R : Nat → Nat} {P : Pos} (h : TRep T P) (w : WF R P) (hr : RR r R) {s : Nat} (hs : s < R 0) : ∀ (k n : Nat), k ≤ R 1 → P.2.2.1 s ≤ k → k < n → F_X4_highestUp_L21 T r n (nI s) (nI k) = some (if 0 < P.2.2.1 s then nI (s * R 1 + P.2.2.1 s - 1) else -1) := by
  have hR := hr.2
  unfold RulesOk at hR
  intro k
  induction k with
  | zero =>
    intro n hk hh hn
    obtain ⟨n, rfl⟩ : ∃ q, n = q + 1 := ⟨n - 1, by omega⟩
    show F_X4_highestUp_s21 T r (F_X4_highestUp_L21 T r n) _ _ = _
    unfold F_X4_highestUp_s21
    rw [if_pos (by exact Int32.le_refl _), if_neg (by omega)]
  | succ k ih =>
    intro n hk hh hn
    obtain ⟨n, rfl⟩ : ∃ q, n = q + 1 := ⟨n - 1, by omega⟩
    show F_X4_highestUp_s21 T r (F_X4_highestUp_L21 T r n) _ _ = _
    unfold F_X4_highestUp_s21
    have hb : s * R 1 + k < R 0 * R 1 := by
      have := Nat.mul_le_mul_right (R 1) (show s + 1 ≤ R 0 by omega)
      rw [Nat.succ_mul] at this; omega
    have e1 : (s * R 1 + k) / R 1 = s := by
      rw [Nat.mul_comm, Nat.mul_add_div (by omega), Nat.div_eq_of_lt (by omega), Nat.add_zero]
    have e2 : (s * R 1 + k) % R 1 = k := by
      rw [Nat.mul_comm, Nat.mul_add_mod, Nat.mod_eq_of_lt (by omega)]
    have e3 := w.on20 hb
    rw [e1, e2] at e3
    rw [if_neg (nI_ge (by omega) (by omega)), hr.1 1 (by omega), pk_mul, nI_add, pk_sub (by omega), show s * R 1 + (k + 1) - 1 = s * R 1 + k by omega, s_isUp h w.1 (by omega), cal1_s, bi_if, pk_m1]
    by_cases q : P.2.2.1 s = k + 1
    · rw [if_pos (by simp only [decide_eq_true_eq]; exact e3.mpr (by omega)), if_pos (by omega)]
      congr 2; omega
    · rw [if_neg (by simp only [decide_eq_true_eq]; intro z; have := e3.mp z; omega)]
      exact ih n (by omega) (by omega) (by omega)
def highA (R : Nat → Nat) (P : Pos) (d : Nat) : Int32 := if d < R 0 ∧ 0 < P.2.2.1 d then nI (d * R 1 + P.2.2.1 d - 1) else -1
theorem s_highest {T : Nat → Nat → Int32} {r : Nat → Int32} {R : Nat → Nat} {P : Pos} (h : TRep T P) (w : WF R P) (hr : RR r R) {d : Nat} (hd : d < 2 ^ 31) : F_X4_highestUp T r (nI d) = some (highA R P d) := by
  have hR := hr.2
  unfold RulesOk at hR
  unfold F_X4_highestUp highA
  rw [hr.1 0 (by omega), hr.1 1 (by omega)]
  by_cases q : d < R 0
  · rw [if_pos (nI_lt q (by omega)), s_highest_L h w hr q (R 1) FU (Nat.le_refl _) (w.2.2.2.2.2.1 d) (FU_gt (by omega))]
    simp [q]
  · rw [if_neg (nI_nlt (by omega) (by omega)), if_neg (fun z => q z.1)]
def safeB (R : Nat → Nat) (P : Pos) (c : Nat) : Bool := (List.range (R 0 * R 1)).all (fun o => decide (o % R 1 < P.2.2.1 (o / R 1)) || !fitB R o c)
theorem s_isSafe_L {T : Nat → Nat → Int32} {r : Nat → Int32} {R : Nat → Nat} {P : Pos} (h : TRep T P) (w : WF R P) (hr : RR r R) {c : Nat} (hc : c < 16) : ∀ (j k n : Nat), k + j = R 0 * R 1 → j < n → F_X4_isSafeUp_L2 T r n (nI c) (nI k) = some (bi ((List.range' k j).all (fun o => decide (o % R 1 < P.2.2.1 (o / R 1)) || !fitB R o c))) := by
  have hR := hr.2
  unfold RulesOk at hR
  intro j
  induction j with
  | zero =>
    intro k n hk hn
    obtain ⟨n, rfl⟩ : ∃ q, n = q + 1 := ⟨n - 1, by omega⟩
    show F_X4_isSafeUp_s2 T r (F_X4_isSafeUp_L2 T r n) _ _ = _
    unfold F_X4_isSafeUp_s2
    rw [s_cards hr, cal1_s, if_pos (nI_le (by omega) (by omega))]; rfl
  | succ j ih =>
    intro k n hk hn
    obtain ⟨n, rfl⟩ : ∃ q, n = q + 1 := ⟨n - 1, by omega⟩
    show F_X4_isSafeUp_s2 T r (F_X4_isSafeUp_L2 T r n) _ _ = _
    unfold F_X4_isSafeUp_s2
    have e : (List.range' k (j + 1)).all (fun o => decide (o % R 1 < P.2.2.1 (o / R 1)) || !fitB R o c) = ((decide (k % R 1 < P.2.2.1 (k / R 1)) || !fitB R k c) && (List.range' (k + 1) j).all (fun o => decide (o % R 1 < P.2.2.1 (o / R 1)) || !fitB R o c)) := rfl
    rw [s_cards hr, cal1_s, if_neg (nI_ge (by omega) (by omega)), s_isUp h w.1 (by omega), cal1_s, bi_if, s_isFitting hr (by omega) hc, cal1_s, bi_if, nI_add, ih (k + 1) n (by omega) (by omega), e]
    have h20 := w.on20 (show k < R 0 * R 1 by omega)
    by_cases q : onN P k = 20
    · rw [if_pos (by simpa using q)]; simp [h20.mp q]
    · have : ¬ k % R 1 < P.2.2.1 (k / R 1) := fun z => q (h20.mpr z)
      rw [if_neg (by simpa using q)]
      by_cases q2 : fitB R k c = true
      · rw [if_pos q2]; simp [this, q2, zb0, bi]
      · rw [if_neg q2]; simp only [Bool.not_eq_true] at q2; simp [q2]
theorem s_isSafe {T : Nat → Nat → Int32} {r : Nat → Int32} {R : Nat → Nat} {P : Pos} (h : TRep T P) (w : WF R P) (hr : RR r R) {c : Nat} (hc : c < 16) : F_X4_isSafeUp T r (nI c) = some (bi (safeB R P c)) := by
  have hR := hr.2
  unfold RulesOk at hR
  unfold safeB
  rw [List.range_eq_range']
  exact s_isSafe_L h w hr hc (R 0 * R 1) 0 FU (by omega) (FU_gt (by omega))
def safeAt (R : Nat → Nat) (P : Pos) (f : Nat) : Bool := legal R P f 8 1 && safeB R P ((P.1 f).headD 0)
theorem s_firstSafe_L {T : Nat → Nat → Int32} {r : Nat → Int32} {R : Nat → Nat} {P : Pos} (h : TRep T P) (w : WF R P) (hr : RR r R) : ∀ (j k n : Nat), k + j = 8 → j < n → F_X4_firstSafePlace_L2 T r n (nI k) = some (optI ((List.range' k j).find? (safeAt R P))) := by
  intro j
  induction j with
  | zero =>
    intro k n hk hn
    obtain ⟨n, rfl⟩ : ∃ q, n = q + 1 := ⟨n - 1, by omega⟩
    show F_X4_firstSafePlace_s2 T r (F_X4_firstSafePlace_L2 T r n) _ = _
    unfold F_X4_firstSafePlace_s2
    rw [if_pos (nI_lt (by omega) (by omega))]; rfl
  | succ j ih =>
    intro k n hk hn
    obtain ⟨n, rfl⟩ : ∃ q, n = q + 1 := ⟨n - 1, by omega⟩
    show F_X4_firstSafePlace_s2 T r (F_X4_firstSafePlace_L2 T r n) _ = _
    unfold F_X4_firstSafePlace_s2
    have e : List.range' k (j + 1) = k :: List.range' (k + 1) j := rfl
    rw [if_neg (nI_nlt (by omega) (by omega)), s_isMove h w hr (show k < 10 by omega) (show 8 < 9 by omega) (Nat.le_refl 1) (by omega) (Or.inl rfl), cal1_s, bi_if, nI_add, ih (k + 1) n (by omega) (by omega), e, List.find?_cons]
    unfold safeAt
    by_cases q : legal R P k 8 1 = true
    · rw [if_pos q, q, Bool.true_and, s_topOf h (by omega), cal1_s]
      have hne : P.1 k ≠ [] := by
        intro z
        unfold legal at q
        rw [if_neg (by omega), z] at q
        cases q
      cases ec : P.1 k with
      | nil => exact absurd ec hne
      | cons c l =>
        have hc := w.1.1 k c (by rw [ec]; simp)
        rw [show topI (c :: l) = nI c from rfl, s_isSafe h w hr hc, cal1_s, bi_if]
        show (if safeB R P c = true then _ else _) = _
        cases e2 : safeB R P c <;> simp [e2, optI_some]
    · rw [if_neg q]
      simp only [Bool.not_eq_true] at q
      rw [q]; rfl
theorem s_firstSafe {T : Nat → Nat → Int32} {r : Nat → Int32} {R : Nat → Nat} {P : Pos} (h : TRep T P) (w : WF R P) (hr : RR r R) : F_X4_firstSafePlace T r = some (optI ((List.range 8).find? (safeAt R P))) := by
  rw [List.range_eq_range']
  exact s_firstSafe_L h w hr 8 0 FU (by omega) (FU_gt (by omega))
