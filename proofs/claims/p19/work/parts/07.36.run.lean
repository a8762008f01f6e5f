/-! ===== the class's search is the search told ===== -/
theorem s_fill_L {n : Nat} (hn : n < 2 ^ 31) (v : Int32) : ∀ (j k m : Nat) (f : Nat → Int32), k + j = n → j < m → ∃ f', F_J7_fill_53178_L5 n m f v (nI k) (nI n) = some f' ∧ ∀ i, f' i = if k ≤ i ∧ i < n then v else f i := by
  intro j
  induction j with
  | zero =>
    intro k m f hk hm
    obtain ⟨m, rfl⟩ : ∃ q, m = q + 1 := ⟨m - 1, by omega⟩
    refine ⟨f, ?_, fun i => by rw [if_neg (by omega)]⟩
    show F_J7_fill_53178_s5 n (F_J7_fill_53178_L5 n m) _ _ _ _ = _
    unfold F_J7_fill_53178_s5
    rw [if_pos (nI_le (by omega) (by omega))]
  | succ j ih =>
    intro k m f hk hm
    obtain ⟨m, rfl⟩ : ∃ q, m = q + 1 := ⟨m - 1, by omega⟩
    show ∃ f', F_J7_fill_53178_s5 n (F_J7_fill_53178_L5 n m) _ _ _ _ = _ ∧ _
    unfold F_J7_fill_53178_s5
    rw [if_neg (nI_ge (by omega) (by omega)), wr1_n _ (by omega) (by omega), nI_add]
    obtain ⟨f', e1, e2⟩ := ih (k + 1) m (upd f k v) (by omega) (by omega)
    refine ⟨f', e1, fun i => ?_⟩
    rw [e2, upd_s]
    by_cases q : i = k
    · subst q; rw [if_neg (by omega), if_pos rfl, if_pos (by omega)]
    · by_cases q2 : k + 1 ≤ i ∧ i < n
      · rw [if_pos q2, if_pos (by omega)]
      · rw [if_neg q2, if_neg q, if_neg (by omega)]
theorem s_fill {n : Nat} (hn : n < 4000) (v : Int32) (f : Nat → Int32) : ∃ f', F_J7_fill_53178 n f v = some f' ∧ ∀ i, f' i = if i < n then v else f i := by
  obtain ⟨f', e1, e2⟩ := s_fill_L (show n < 2 ^ 31 by omega) v n 0 FU f (by omega) (FU_gt (by omega))
  exact ⟨f', e1, fun i => by rw [e2]; simp⟩
theorem SInv.cong {R : Nat → Nat} {Q : Nat → Nat → Int32} {S S' : Nat → Nat → Int64} {KP : List Pos} {ST ST' : Nat → Nat} (h : SInv R Q S KP ST) (h1 : ∀ k j, j < KP.length → S' k j = S k j) (h2 : ∀ i, i < KP.length → ST' i = ST i) : SInv R Q S' KP ST' := by
  refine ⟨h.1, fun i hi => by rw [h2 i hi]; exact h.2.1 i hi, ?_, h.2.2.2.1, h.2.2.2.2⟩
  intro i P hP
  have hi := (List.getElem?_eq_some_iff.mp hP).1
  obtain ⟨r, w⟩ := h.2.2.1 i P hP
  exact ⟨⟨(h1 0 i hi).trans r.1, (h1 1 i hi).trans r.2.1, (h1 2 i hi).trans r.2.2⟩, w⟩
theorem expA_len {R : Nat → Nat} {b : Nat} {P : Pos} : ∀ (ms : List Nat) (KP : List Pos), KP.length ≤ b → (expA R b P ms KP).1.length ≤ b ∧ KP.length ≤ (expA R b P ms KP).1.length
  | [], KP, h => ⟨h, Nat.le_refl _⟩
  | m :: r, KP, h => by
    unfold expA
    split
    · exact expA_len r KP h
    · split
      · rename_i q
        have hl : (KP ++ [playC R P m]).length ≤ b := by simp; omega
        split
        · exact ⟨hl, by simp⟩
        · have := expA_len (R := R) (P := P) r (KP ++ [playC R P m]) hl
          exact ⟨this.1, by have := this.2; simp only [List.length_append, List.length_singleton] at this; omega⟩
      · exact ⟨h, Nat.le_refl _⟩
theorem s_exp {r : Nat → Int32} {R : Nat → Nat} {P : Pos} {To : Nat → Nat → Int32} (hr : RR r R) (w : WF R P) (hT : LRep To P (mvs R P)) {b k step : Nat} (hb : b ≤ 400) (ST : Nat → Nat) (K55 : (Nat → Nat → Int32) → (Nat → Nat → Int32) → (Nat → Nat → Int32) → (Nat → Nat → Int64) → Int32 → Int32 → Option (Int32 × (Nat → Nat → Int32) × (Nat → Nat → Int32) × (Nat → Nat → Int32) × (Nat → Nat → Int64))) :
    ∀ (ms : List Nat) (i n : Nat) (Q Tt : Nat → Nat → Int32) (S : Nat → Nat → Int64) (KP : List Pos), (mvs R P).drop i = ms → i ≤ (mvs R P).length → ms.length < n → SInv R Q S KP ST → KP.length ≤ b → (∀ j, KP.length ≤ j → ST j = step) →
    ∃ Q' Tt' S', SInv R Q' S' (expA R b P ms KP).1 ST ∧ F_X2_run_L101 r K55 n Q To Tt S (nI b) (nI k) (nI step) (nI i) =
      (if (expA R b P ms KP).2 = 1 then some (nI step, Q', To, Tt', S') else if (expA R b P ms KP).2 = 2 then some (-2, Q', To, Tt', S') else K55 Q' To Tt' S' (nI b) (nI (k + 1))) := by
  have hml := mvs_le hr.2 w.1
  intro ms
  induction ms with
  | nil =>
    intro i n Q Tt S KP hms hi hn hI hlen hst
    obtain ⟨n, rfl⟩ : ∃ q, n = q + 1 := ⟨n - 1, by simp at hn; omega⟩
    have : (mvs R P).length ≤ i := by rwa [List.drop_eq_nil_iff] at hms
    refine ⟨Q, Tt, S, hI, ?_⟩
    show F_X2_run_s101 r K55 (F_X2_run_L101 r K55 n) _ _ _ _ _ _ _ _ = _
    unfold F_X2_run_s101
    rw [hT.2.1, if_pos (nI_le this (by omega)), nI_add]
    rfl
  | cons m rs ih =>
    intro i n Q Tt S KP hms hi hn hI hlen hst
    obtain ⟨n, rfl⟩ : ∃ q, n = q + 1 := ⟨n - 1, by simp at hn; omega⟩
    have hlt : i < (mvs R P).length := by
      rcases Nat.lt_or_ge i (mvs R P).length with q | q
      · exact q
      · rw [List.drop_eq_nil_of_le q] at hms; cases hms
    have hm : (mvs R P)[i]? = some m := by
      have := List.getElem?_drop (xs := mvs R P) (i := i) (j := 0)
      rw [hms] at this; simpa using this.symm
    have hmem : m ∈ mvs R P := List.mem_of_getElem? hm
    have hrs : (mvs R P).drop (i + 1) = rs := by
      rw [← List.drop_drop, hms]; rfl
    show ∃ Q' Tt' S', _ ∧ F_X2_run_s101 r K55 (F_X2_run_L101 r K55 n) _ _ _ _ _ _ _ _ = _
    unfold F_X2_run_s101
    rw [hT.2.1, if_neg (nI_ge hlt (by omega))]
    obtain ⟨T1, c1, c2, -, -⟩ := s_copyFrom (T0 := Tt) hT.1
    rw [c1, cal1_s, s_listedAt hT (by omega) (by omega), hm, optI_some, cal1_s]
    obtain ⟨T2, d1, d2⟩ := s_playC c2 w hr.2 hmem
    have wC := wf_playC w hr.2 hmem
    rw [d1, cal1_s, hI.1]
    obtain ⟨S1, f1, f2, f3⟩ := s_keep (S := S) (n := 401) (i := KP.length) d2 wC.1 (by omega) (by omega)
    rw [f1, cal1_s]
    have hI1 : SInv R Q S1 KP ST := hI.cong (fun k j hj => f3 k j (by omega)) (fun _ _ => rfl)
    rw [s_isKnown hr.2 hI1 (by omega) wC f2, cal1_s, bi_if, nI_add]
    unfold expA
    by_cases q : knownB KP (playC R P m) = true
    · rw [if_pos q, if_pos q]
      exact ih (i + 1) n Q T2 S1 KP hrs (by omega) (by simp at hn; omega) hI1 hlen hst
    · rw [if_neg q, if_neg q]
      by_cases q2 : KP.length < b
      · rw [if_pos (nI_lt q2 (by omega)), if_pos q2]
        obtain ⟨Q1, g1, g2⟩ := s_makeKnown hI1 (by omega) wC f2 step ST (fun _ _ => rfl) (hst _ (Nat.le_refl _))
        rw [g1, cal1_s, s_isWon d2 wC hr, cal1_s, bi_if]
        by_cases q3 : wonB R (playC R P m) = true
        · rw [if_pos q3, if_pos q3]
          exact ⟨Q1, T2, S1, g2, rfl⟩
        · rw [if_neg q3, if_neg q3]
          exact ih (i + 1) n Q1 T2 S1 (KP ++ [playC R P m]) hrs (by omega) (by simp at hn; omega) g2 (by simp; omega) (fun j hj => hst j (by simp at hj; omega))
      · rw [if_neg (nI_nlt (by omega) (by omega)), if_neg q2]
        exact ⟨Q, T2, S1, hI1, rfl⟩
theorem expA_st {R : Nat → Nat} {b : Nat} {P : Pos} : ∀ (ms : List Nat) (KP : List Pos), (expA R b P ms KP).2 ≤ 2
  | [], KP => Nat.zero_le _
  | m :: r, KP => by
    unfold expA
    repeat' split
    · exact expA_st r KP
    · exact (by omega : (1 : Nat) ≤ 2)
    · exact expA_st r _
    · exact Nat.le_refl _
theorem s_bfs {r : Nat → Int32} {R : Nat → Nat} (hr : RR r R) {b : Nat} (hb : b ≤ 400) :
    ∀ (m k n : Nat) (Q To Tt : Nat → Nat → Int32) (S : Nat → Nat → Int64) (KP : List Pos) (ST : Nat → Nat), b + 1 ≤ k + m → m < n → k ≤ 401 → SInv R Q S KP ST → KP.length ≤ b →
    ∃ Q' To' Tt' S', F_X2_run_L55 r n Q To Tt S (nI b) (nI k) = some ((bfsA R b m k KP ST).1, Q', To', Tt', S') ∧ Q' 0 1 = nI (bfsA R b m k KP ST).2.length ∧ (bfsA R b m k KP ST).2.length ≤ b := by
  intro m
  induction m with
  | zero =>
    intro k n Q To Tt S KP ST hk hn hk1 hI hlen
    obtain ⟨n, rfl⟩ : ∃ q, n = q + 1 := ⟨n - 1, by omega⟩
    refine ⟨Q, To, Tt, S, ?_, hI.1, hlen⟩
    show F_X2_run_s55 r (F_X2_run_L55 r n) _ _ _ _ _ _ = _
    unfold F_X2_run_s55
    rw [hI.1, if_pos (nI_le (by omega) (by omega))]
    rfl
  | succ m ih =>
    intro k n Q To Tt S KP ST hk hn hk1 hI hlen
    obtain ⟨n, rfl⟩ : ∃ q, n = q + 1 := ⟨n - 1, by omega⟩
    show ∃ Q' To' Tt' S', F_X2_run_s55 r (F_X2_run_L55 r n) _ _ _ _ _ _ = _ ∧ _
    unfold F_X2_run_s55 bfsA
    rw [hI.1]
    cases hP : KP[k]? with
    | none =>
      have : KP.length ≤ k := by rwa [List.getElem?_eq_none_iff] at hP
      rw [if_pos (nI_le this (by omega))]
      exact ⟨Q, To, Tt, S, rfl, hI.1, hlen⟩
    | some P =>
      have hlt := (List.getElem?_eq_some_iff.mp hP).1
      obtain ⟨rw1, wP⟩ := hI.2.2.1 k P hP
      rw [if_neg (nI_ge hlt (by omega)), if_neg (nI_ge (by omega) (by omega)), s_at (by omega) (by omega), cal1_s, hI.2.1 k hlt]
      obtain ⟨T1, e1, e2⟩ := s_fetch (T := To) wP.1 (wP.tu2 hr.2) (n := 401) (by omega) (by omega) rw1
      rw [e1, cal1_s]
      obtain ⟨T2, g1, g2⟩ := s_listMoves e2 wP hr
      rw [g1, cal1_s, nI_add]
      have hml := mvs_le hr.2 wP.1
      have hI1 : SInv R Q S KP (fun i => if i < KP.length then ST i else ST k + 1) := hI.cong (fun _ _ _ => rfl) (fun i hi => if_pos hi)
      obtain ⟨Q', Tt', S', h1, h2⟩ := s_exp hr wP g2 (b := b) (k := k) (step := ST k + 1) hb _ (F_X2_run_L55 r n) (mvs R P) 0 FU Q Tt S KP rfl (Nat.zero_le _) (FU_gt (by omega)) hI1 hlen (fun j hj => if_neg (by omega))
      rw [h2]
      have hl2 := expA_len (R := R) (P := P) (mvs R P) KP hlen
      dsimp only
      by_cases q1 : (expA R b P (mvs R P) KP).2 = 1
      · simp only [q1, if_true]
        exact ⟨Q', T2, Tt', S', rfl, h1.1, hl2.1⟩
      · by_cases q2 : (expA R b P (mvs R P) KP).2 = 2
        · rw [if_neg q1, if_neg q1, if_pos q2, if_pos q2]
          exact ⟨Q', T2, Tt', S', rfl, h1.1, hl2.1⟩
        · rw [if_neg q1, if_neg q1, if_neg q2, if_neg q2]
          exact ih (k + 1) n Q' T2 Tt' S' _ _ (by omega) (by omega) (by omega) h1 hl2.1
theorem s_run {r : Nat → Int32} {R : Nat → Nat} {P : Pos} {Tt : Nat → Nat → Int32} (hr : RR r R) (h : TRep Tt P) (w : WF R P) {b : Nat} (hb1 : 1 ≤ b) (hb : b ≤ 400) (Q To : Nat → Nat → Int32) (S : Nat → Nat → Int64) :
    ∃ Q' To' Tt' S', F_X2_run r Q To Tt S (nI b) = some ((searchA R b P).1, Q', To', Tt', S') ∧ Q' 0 1 = nI (searchA R b P).2.length ∧ (searchA R b P).2.length ≤ b := by
  unfold F_X2_run
  obtain ⟨f', a1, a2⟩ := s_fill (n := 256) (by omega) (-1) (Q 2)
  rw [a1, cal1_s, bnd_s, bnd_s]
  obtain ⟨To1, b1, b2, -, -⟩ := s_copyFrom (T0 := To) h
  rw [b1, cal1_s]
  obtain ⟨S1, c1, c2, c3⟩ := s_keep (S := S) (n := 401) (i := 0) h w.1 (by omega) (by omega)
  rw [c1, cal1_s]
  have hI0 : SInv R (st2 (setc Q 2 f') 0 1 (nI 0)) S1 [] (fun _ => 0) := by
    refine ⟨by simp [st2_s], fun i hi => absurd hi (Nat.not_lt_zero i), fun i P hP => by simp at hP, ?_, fun i hi => absurd hi (Nat.not_lt_zero i)⟩
    intro v hv
    simp [st2_s, setc_s, a2, hv, lastIn, optI_none]
  obtain ⟨Q1, d1, d2⟩ := s_makeKnown (ST := fun _ => 0) hI0 (by simp) w c2 0 (fun _ => 0) (fun _ _ => rfl) rfl
  rw [d1, cal1_s, s_isWon h w hr, cal1_s, bi_if]
  unfold searchA
  by_cases q : wonB R P = true
  · rw [if_pos q, if_pos q]
    exact ⟨Q1, To1, Tt, S1, rfl, d2.1, by simp; omega⟩
  · rw [if_neg q, if_neg q]
    exact s_bfs hr hb 1000 0 FU Q1 To1 Tt S1 [P] (fun _ => 0) (by omega) (FU_gt (by omega)) (by omega) d2 (by simp; omega)
