/-! ===== the second reading: safe moves, one behind the other ===== -/
/-- the positions that safe moves lead to, at most n of them -/
def safeL (R : Nat → Nat) : Nat → Pos → List Pos
  | 0, _ => []
  | n + 1, P => match (List.range 8).find? (safeAt R P) with
    | none => []
    | some f => playP R P f 8 1 :: safeL R n (playP R P f 8 1)
theorem m_safe27 {R : Nat → Nat} {P : Pos} {past : List Pos} {done : Nat} (w : WF R P) (hd : done < 200) (hlen : past.length = done + 1) (K9 : (Nat → Nat → Int32) → (Nat → Nat → Int64) → Int32 → Int32 → Option (Int32 × (Nat → Nat → Int32) × (Nat → Nat → Int64))) (v1 : Nat) {I : Nat → Nat → Int32} {L : Nat → Nat → Int64} (hr : RR (I 1) R) (h : MRep I L P) (h13 : I 0 13 = nI done) (hp : MPast L past) :
    ∀ (j k m : Nat), k + j = 8 → j + 1 < m →
    match (List.range' k j).find? (safeAt R P) with
    | none => F_X6_safe_L27 K9 m I L (nI v1) (nI 0) (nI k) = K9 I L (nI v1) (nI 0)
    | some f => ∃ I' L', F_X6_safe_L27 K9 m I L (nI v1) (nI 0) (nI k) = K9 I' L' (nI (v1 + 1)) (nI 1) ∧ WF R (playP R P f 8 1) ∧ MRep I' L' (playP R P f 8 1) ∧ I' 0 13 = nI (done + 1) ∧ MPast L' (past ++ [playP R P f 8 1]) ∧ FrD I I' ∧ L' 2 = L 2 := by
  have hR := hr.2
  unfold RulesOk at hR
  intro j
  induction j with
  | zero =>
    intro k m hk hm
    obtain ⟨m, rfl⟩ : ∃ q, m = q + 1 := ⟨m - 1, by omega⟩
    show F_X6_safe_s27 K9 (F_X6_safe_L27 K9 m) _ _ _ _ _ = _
    unfold F_X6_safe_s27
    rw [if_pos (nI_lt (by omega) (by omega))]
  | succ j ih =>
    intro k m hk hm
    obtain ⟨m, rfl⟩ : ∃ q, m = q + 2 := ⟨m - 2, by omega⟩
    have e : List.range' k (j + 1) = k :: List.range' (k + 1) j := rfl
    have i0 := ih (k + 1) (m + 1) (by omega) (by omega)
    have unf : F_X6_safe_L27 K9 (m + 2) I L (nI v1) (nI 0) (nI k) = F_X6_safe_s27 K9 (F_X6_safe_L27 K9 (m + 1)) I L (nI v1) (nI 0) (nI k) := rfl
    have b0 : F_X6_safe_b65 K9 (F_X6_safe_L27 K9 (m + 1)) I L (nI v1) (nI k) (nI 0) = F_X6_safe_L27 K9 (m + 1) I L (nI v1) (nI 0) (nI (k + 1)) := by
      unfold F_X6_safe_b65
      rw [if_pos rfl, nI_add]
    rw [e, unf]
    unfold F_X6_safe_s27
    rw [if_neg (nI_nlt (by omega) (by omega)), if_pos (show (nI 0 : Int32) = nI 0 from rfl), m_isMove h w hr (show k < 10 by omega) (show 8 < 9 by omega) (Nat.le_refl 1) (by omega) (Or.inl rfl), cal1_s, bi_if, b0]
    by_cases q : legal R P k 8 1 = true
    · have hne : P.1 k ≠ [] := by
        intro z
        have q' := q
        unfold legal at q'
        rw [if_neg (by omega), z] at q'
        cases q'
      obtain ⟨c, l, ec⟩ : ∃ c l, P.1 k = c :: l := by
        cases ec : P.1 k with
        | nil => exact absurd ec hne
        | cons c l => exact ⟨c, l, rfl⟩
      have hc := w.1.1 k c (by rw [ec]; simp)
      rw [if_pos q, m_lastOf h w (by omega) (by omega), cal1_s, ec, show topI (c :: l) = nI c from rfl, m_isSafe h w hr hc, cal1_s, bi_if]
      by_cases q2 : safeB R P c = true
      · have hs : safeAt R P k = true := by unfold safeAt; rw [q, ec]; exact q2
        rw [if_pos q2, List.find?_cons_of_pos hs]
        obtain ⟨I', L', a1, a2, a3, a4, a5, a6⟩ := m_doMove h w hr (show 8 < 9 by omega) (Nat.le_refl 1) (by omega) (Or.inl rfl) q h13 hd hp hlen
        have wC := wf_play w hr.2 (Nat.le_refl 1) (Or.inl rfl) q
        refine ⟨I', L', ?_, wC, a2, a3, a4, a5, a6⟩
        unfold F_X6_safe_b65
        rw [if_neg (show ¬ nI 1 = nI 0 by decide), a1, cal2_s, nI_add, nI_add]
        show F_X6_safe_s27 K9 (F_X6_safe_L27 K9 m) _ _ _ _ _ = _
        unfold F_X6_safe_s27
        rw [if_neg (show ¬ nI 1 = nI 0 by decide)]
        split <;> rfl
      · have hs : ¬ safeAt R P k = true := by unfold safeAt; rw [q, ec]; exact q2
        rw [if_neg q2, List.find?_cons_of_neg hs]
        exact i0
    · have hs : ¬ safeAt R P k = true := by unfold safeAt; rw [Bool.not_eq_true] at q; rw [q]; exact Bool.false_ne_true
      rw [if_neg q, List.find?_cons_of_neg hs]
      exact i0
/-- what a run of safe moves comes to: how many, the position, and all that were -/
def SafeR (R : Nat → Nat) (I : Nat → Nat → Int32) (L : Nat → Nat → Int64) (past cs : List Pos) (P : Pos) (done v1 : Nat) (x : Option (Int32 × (Nat → Nat → Int32) × (Nat → Nat → Int64))) : Prop :=
  ∃ I' L', x = some (nI (v1 + cs.length), I', L') ∧ MRep I' L' ((P :: cs).getLast (by simp)) ∧ WF R ((P :: cs).getLast (by simp)) ∧ I' 0 13 = nI (done + cs.length) ∧ MPast L' (past ++ cs) ∧ FrD I I' ∧ L' 2 = L 2
theorem FrD.trans {I I' I'' : Nat → Nat → Int32} (h : FrD I I') (h2 : FrD I' I'') : FrD I I'' := ⟨fun a ha => (h2.1 a ha).trans (h.1 a ha), fun j a b c d => (h2.2 j a b c d).trans (h.2 j a b c d)⟩
theorem FrD.refl (I : Nat → Nat → Int32) : FrD I I := ⟨fun _ _ => rfl, fun _ _ _ _ _ => rfl⟩
theorem m_safe9 {R : Nat → Nat} : ∀ (n m : Nat) (P : Pos) (past : List Pos) (done v1 : Nat) (I : Nat → Nat → Int32) (L : Nat → Nat → Int64), done + n = 200 → n + 1 < m → WF R P → past.length = done + 1 → RR (I 1) R → MRep I L P → I 0 13 = nI done → MPast L past →
    SafeR R I L past (safeL R n P) P done v1 (F_X6_safe_L9 m I L (nI v1) (nI 1)) := by
  intro n
  induction n with
  | zero =>
    intro m P past done v1 I L hd hm w hlen hr h h13 hp
    obtain ⟨m, rfl⟩ : ∃ q, m = q + 1 := ⟨m - 1, by omega⟩
    refine ⟨I, L, ?_, h, w, h13, by rw [show safeL R 0 P = [] from rfl, List.append_nil]; exact hp, FrD.refl I, rfl⟩
    show F_X6_safe_s9 (F_X6_safe_L9 m) _ _ _ _ = _
    unfold F_X6_safe_s9
    rw [if_neg (show ¬ nI 1 = nI 0 by decide), h13, if_pos (nI_le (by omega) (by omega))]; rfl
  | succ n ih =>
    intro m P past done v1 I L hd hm w hlen hr h h13 hp
    obtain ⟨m, rfl⟩ : ∃ q, m = q + 2 := ⟨m - 2, by omega⟩
    have unf : F_X6_safe_L9 (m + 2) I L (nI v1) (nI 1) = F_X6_safe_L27 (F_X6_safe_L9 (m + 1)) FU I L (nI v1) (nI 0) (nI 0) := by
      show F_X6_safe_s9 (F_X6_safe_L9 (m + 1)) _ _ _ _ = _
      unfold F_X6_safe_s9
      rw [if_neg (show ¬ nI 1 = nI 0 by decide), h13, if_neg (nI_ge (by omega) (by omega))]
    have h27 := m_safe27 w (show done < 200 by omega) hlen (F_X6_safe_L9 (m + 1)) v1 hr h h13 hp 8 0 FU (by omega) (FU_gt (by omega))
    rw [← List.range_eq_range'] at h27
    rw [unf]
    show SafeR R I L past (match (List.range 8).find? (safeAt R P) with | none => [] | some f => playP R P f 8 1 :: safeL R n (playP R P f 8 1)) P done v1 _
    cases e : (List.range 8).find? (safeAt R P) with
    | none =>
      rw [e] at h27
      dsimp only at h27 ⊢
      rw [h27]
      refine ⟨I, L, ?_, h, w, h13, by rw [List.append_nil]; exact hp, FrD.refl I, rfl⟩
      show F_X6_safe_s9 (F_X6_safe_L9 m) _ _ _ _ = _
      unfold F_X6_safe_s9
      rw [if_pos rfl]; rfl
    | some f =>
      rw [e] at h27
      dsimp only at h27 ⊢
      obtain ⟨I1, L1, a1, wC, a2, a3, a4, a5, a6⟩ := h27
      rw [a1]
      obtain ⟨I2, L2, b1, b2, b3, b4, b5, b6, b7⟩ := ih (m + 1) (playP R P f 8 1) (past ++ [playP R P f 8 1]) (done + 1) (v1 + 1) I1 L1 (by omega) (by omega) wC (by simp; omega) (by rw [a5.1 1 (by omega)]; exact hr) a2 a3 a4
      refine ⟨I2, L2, ?_, ?_, ?_, ?_, ?_, a5.trans b6, b7.trans a6⟩
      · rw [b1, List.length_cons, show v1 + ((safeL R n (playP R P f 8 1)).length + 1) = v1 + 1 + (safeL R n (playP R P f 8 1)).length by omega]
      · rw [List.getLast_cons (by simp)]; exact b2
      · rw [List.getLast_cons (by simp)]; exact b3
      · rw [b4, List.length_cons, show done + ((safeL R n (playP R P f 8 1)).length + 1) = done + 1 + (safeL R n (playP R P f 8 1)).length by omega]
      · rw [List.append_assoc] at b5; exact b5
