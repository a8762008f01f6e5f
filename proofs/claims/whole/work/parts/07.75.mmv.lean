/-! ===== the second reading: move, undo, safe ===== -/
def okArg (v1 v2 v3 : Int32) : Bool := inB v1 0 9 && (decide (¬ v1 = nI 8) && (inB v2 0 8 && (decide (¬ v1 = v2) && (inB v3 1 16 && (decide (v3 = nI 1) || (decide (¬ nI 5 ≤ v1) && decide (¬ nI 5 ≤ v2)))))))
def okDo (A : AS) (v1 v2 v3 : Int32) : Bool := decide (A.2.2.1.length - 1 < 200) && legal A.2.1 (cur A.2.2.1) (nV v1) (nV v2) (nV v3)
def afterMove (A : AS) (v1 v2 v3 : Int32) : Pos := playP A.2.1 (cur A.2.2.1) (nV v1) (nV v2) (nV v3)
def aMove (A : AS) (v1 v2 v3 : Int32) : Nat × Int32 × AS :=
  if okArg v1 v2 v3 = true then (if okDo A v1 v2 v3 = true then (0, nI (upN (afterMove A v1 v2 v3)), (A.1, A.2.1, A.2.2.1 ++ [afterMove A v1 v2 v3], A.2.2.2)) else (2, nI 0, A)) else (1, nI 0, A)
theorem okArg_facts {v1 v2 v3 : Int32} (h : okArg v1 v2 v3 = true) : v1 = nI (nV v1) ∧ v2 = nI (nV v2) ∧ v3 = nI (nV v3) ∧ nV v1 < 10 ∧ nV v2 < 9 ∧ 1 ≤ nV v3 ∧ nV v3 ≤ 16 ∧ (nV v3 = 1 ∨ (nV v1 < 5 ∧ nV v2 < 5)) := by
  unfold okArg at h
  simp only [Bool.and_eq_true, Bool.or_eq_true, decide_eq_true_eq] at h
  obtain ⟨h1, -, h2, -, h3, h4⟩ := h
  obtain ⟨e1, a1, b1⟩ := inB_nV (by omega) (by omega) h1
  obtain ⟨e2, a2, b2⟩ := inB_nV (by omega) (by omega) h2
  obtain ⟨e3, a3, b3⟩ := inB_nV (by omega) (by omega) h3
  refine ⟨e1, e2, e3, by omega, by omega, a3, b3, ?_⟩
  rcases h4 with z | ⟨z1, z2⟩
  · left; rw [z]; unfold nV; rw [nI_toInt (by omega)]; rfl
  · right
    rw [e1, Int32.le_iff_toInt_le, nI_toInt (by omega), nI_toInt (by omega)] at z1
    rw [e2, Int32.le_iff_toInt_le, nI_toInt (by omega), nI_toInt (by omega)] at z2
    omega
theorem playP_wf {A : AS} (hA : okA A) {v1 v2 v3 : Int32} (h : okArg v1 v2 v3 = true) (hd : okDo A v1 v2 v3 = true) : WF A.2.1 (afterMove A v1 v2 v3) := by
  obtain ⟨e1, e2, e3, b1, b2, b3, b4, b5⟩ := okArg_facts h
  unfold okDo at hd
  rw [Bool.and_eq_true] at hd
  exact wf_play hA.wf hA.2.1 b3 b5 hd.2
theorem okA.push {A : AS} (hA : okA A) {P : Pos} (w : WF A.2.1 P) (h : A.2.2.1.length ≤ 200) : okA (A.1, A.2.1, A.2.2.1 ++ [P], A.2.2.2) := by
  refine ⟨hA.1, hA.2.1, ?_, ?_, fun Q hQ => ?_, ?_, hA.2.2.2.2.2.2⟩
  · show 1 ≤ (A.2.2.1 ++ [P]).length
    rw [List.length_append]; have := hA.2.2.1; omega
  · show (A.2.2.1 ++ [P]).length ≤ 201
    rw [List.length_append, List.length_singleton]; omega
  · rcases List.mem_append.mp hQ with z | z
    · exact hA.2.2.2.2.1 Q z
    · rw [List.mem_singleton] at z; rw [z]; exact w
  · show (A.2.2.1 ++ [P])[0]? = _
    rw [List.getElem?_append_left (by have := hA.2.2.1; omega)]; exact hA.2.2.2.2.2.1
theorem F_move_arg (I : Nat → Nat → Int32) (L : Nat → Nat → Int64) (v1 v2 v3 : Int32) : F_X6_move I L v1 v2 v3 = if okArg v1 v2 v3 = true then F_X6_move_b61 I L v1 v2 v3 (nI 1) else F_X6_move_b61 I L v1 v2 v3 (nI 0) := by
  unfold F_X6_move okArg
  rw [m_inB, cal1_s, bi_if, m_inB, cal1_s, bi_if, m_inB, cal1_s, bi_if]
  cases inB v1 0 9
  · rw [if_neg Bool.false_ne_true]; rfl
  rw [if_pos rfl]
  by_cases q8 : v1 = nI 8
  · rw [if_pos q8, decide_eq_false (Classical.not_not.mpr q8)]; rfl
  rw [if_neg q8, decide_eq_true q8]
  cases inB v2 0 8
  · rw [if_neg Bool.false_ne_true]; rfl
  rw [if_pos rfl]
  by_cases q2 : v1 = v2
  · rw [if_pos q2, decide_eq_false (Classical.not_not.mpr q2)]; rfl
  rw [if_neg q2, decide_eq_true q2]
  cases inB v3 1 16
  · rw [if_neg Bool.false_ne_true]; rfl
  rw [if_pos rfl]
  by_cases q3 : v3 = nI 1
  · rw [if_pos q3, decide_eq_true q3]; rfl
  rw [if_neg q3, decide_eq_false q3]
  by_cases q4 : nI 5 ≤ v1
  · rw [if_pos q4, decide_eq_false (Classical.not_not.mpr q4)]; rfl
  rw [if_neg q4, decide_eq_true q4]
  by_cases q5 : nI 5 ≤ v2
  · rw [if_pos q5, decide_eq_false (Classical.not_not.mpr q5)]; rfl
  rw [if_neg q5, decide_eq_true q5]; rfl
theorem M_move {A : AS} {I : Nat → Nat → Int32} {L : Nat → Nat → Int64} (hA : okA A) (h : MSt A I L) (v1 v2 v3 : Int32) :
    okA (aMove A v1 v2 v3).2.2 ∧ MStep (F_X6_move I L v1 v2 v3) (aMove A v1 v2 v3) := by
  rw [F_move_arg]
  unfold aMove
  have hlen := hA.2.2.1
  have hlen2 := hA.2.2.2.1
  by_cases q : okArg v1 v2 v3 = true
  · rw [if_pos q, if_pos q]
    obtain ⟨e1, e2, e3, b1, b2, b3, b4, b5⟩ := okArg_facts q
    have g : F_X6_move_b61 I L v1 v2 v3 (nI 1) = if okDo A v1 v2 v3 = true then F_X6_move_b98 I L v1 v2 v3 (nI 0) else F_X6_move_b98 I L v1 v2 v3 (nI 2) := by
      unfold F_X6_move_b61 okDo
      rw [if_neg (show ¬ nI 1 = nI 0 by decide), h.2.2.2.1]
      by_cases q2 : A.2.2.1.length - 1 < 200
      · have := m_isMove h.2.2.1 hA.wf h.2.1 b1 b2 b3 b4 b5
        rw [← e1, ← e2, ← e3] at this
        rw [if_neg (fun y => by have := (nI_eq (by omega) (by omega)).mp y; omega), this, cal1_s, bi_if, decide_eq_true q2, Bool.true_and]
      · rw [if_pos (by rw [show A.2.2.1.length - 1 = 200 by omega]), decide_eq_false q2, Bool.false_and, if_neg Bool.false_ne_true]
    rw [g]
    by_cases q2 : okDo A v1 v2 v3 = true
    · rw [if_pos q2, if_pos q2]
      have w := playP_wf hA q q2
      have q2' := q2
      unfold okDo at q2'
      rw [Bool.and_eq_true, decide_eq_true_eq] at q2'
      refine ⟨hA.push w (by omega), ?_⟩
      have h1 := h.th (nI 0)
      obtain ⟨I1, L1, a1, a2, a3, a4, a5, a6⟩ := m_doMove (done := A.2.2.1.length - 1) h1.2.2.1 hA.wf h1.2.1 b2 b3 b4 b5 q2'.2 h1.2.2.2.1 q2'.1 h1.2.2.2.2.2.2 (by omega)
      rw [← e1, ← e2, ← e3] at a1
      refine ⟨I1, L1, ?_, ?_, ?_⟩
      · unfold F_X6_move_b98
        rw [well0, a1, cal2_s, m_atHome a2, cal1_s]; rfl
      · rw [a5.2 0 (by omega) (by omega) (by omega) (by omega)]; exact th_s _ _
      · refine ⟨fun k hk => ?_, ?_, ?_, ?_, ?_, ?_, a4⟩
        · rw [a5.2 (k + 1) (by omega) (by omega) (by omega) (by omega)]; exact h1.1 k hk
        · rw [a5.1 1 (by omega)]; exact h1.2.1
        · show MRep I1 L1 (cur (A.2.2.1 ++ [afterMove A v1 v2 v3]))
          rw [cur_app]; exact a2
        · show I1 0 13 = nI ((A.2.2.1 ++ [afterMove A v1 v2 v3]).length - 1)
          rw [List.length_append, List.length_singleton, a3]
          congr 1
          omega
        · rw [a5.2 12 (by omega) (by omega) (by omega) (by omega)]; exact h1.2.2.2.2.1
        · rw [a5.2 14 (by omega) (by omega) (by omega) (by omega)]; exact h1.2.2.2.2.2.1
    · rw [if_neg q2, if_neg q2]
      refine ⟨hA, st2 I 0 0 (nI 2), L, ?_, th_s _ _, h.th _⟩
      unfold F_X6_move_b98
      rw [well1 _ _ (Or.inr rfl)]
  · rw [if_neg q, if_neg q]
    refine ⟨hA, st2 I 0 0 (nI 1), L, ?_, th_s _ _, h.th _⟩
    unfold F_X6_move_b61 F_X6_move_b98
    rw [if_pos rfl, well1 _ _ (Or.inl rfl)]
def backN (A : AS) (v : Int32) : Nat := if A.2.2.1.length - 1 ≤ nV v then A.2.2.1.length - 1 else nV v
def aUndo (A : AS) (v : Int32) : Nat × Int32 × AS := if inB v 1 200 = true then (0, nI (backN A v), (A.1, A.2.1, A.2.2.1.take (A.2.2.1.length - 1 - backN A v + 1), A.2.2.2.1 + backN A v, A.2.2.2.2)) else (1, nI 0, A)
theorem cur_take (l : List Pos) {n : Nat} (h : n < l.length) {Q : Pos} (e : l[n]? = some Q) : cur (l.take (n + 1)) = Q := by
  unfold cur
  rw [List.getLast?_eq_getElem?, List.length_take, show min (n + 1) l.length - 1 = n by omega, List.getElem?_take, if_pos (by omega), e]; rfl
theorem M_undo {A : AS} {I : Nat → Nat → Int32} {L : Nat → Nat → Int64} (hA : okA A) (h : MSt A I L) (v : Int32) :
    okA (aUndo A v).2.2 ∧ MStep (F_X6_undo I L v) (aUndo A v) := by
  unfold aUndo
  have hlen := hA.2.2.1
  have hlen2 := hA.2.2.2.1
  cases q : inB v 1 200
  · refine ⟨hA, st2 I 0 0 (nI 1), L, ?_, th_s _ _, h.th _⟩
    unfold F_X6_undo F_X6_undo_b17
    rw [well1 _ _ (Or.inl rfl), m_inB, cal1_s, q, bi_if, if_neg Bool.false_ne_true]; rfl
  · rw [if_pos rfl]
    obtain ⟨e1, a1, b1⟩ := inB_nV (by omega) (by omega) q
    have hb : backN A v ≤ A.2.2.1.length - 1 := by unfold backN; split <;> omega
    have hlt : A.2.2.1.length - 1 - backN A v < A.2.2.1.length := by omega
    obtain ⟨Q, hQ⟩ : ∃ Q, A.2.2.1[A.2.2.1.length - 1 - backN A v]? = some Q := ⟨_, List.getElem?_eq_getElem hlt⟩
    have wQ := hA.2.2.2.2.1 Q (List.mem_of_getElem? hQ)
    refine ⟨⟨hA.1, hA.2.1, ?_, ?_, fun P hP => hA.2.2.2.2.1 P (List.mem_of_mem_take hP), ?_, hA.2.2.2.2.2.2⟩, ?_⟩
    · show 1 ≤ (A.2.2.1.take _).length
      rw [List.length_take]; omega
    · show (A.2.2.1.take _).length ≤ 201
      rw [List.length_take]; omega
    · show (A.2.2.1.take _)[0]? = _
      rw [List.getElem?_take, if_pos (by omega)]; exact hA.2.2.2.2.2.1
    have h1 := h.th (nI 0)
    obtain ⟨I1, L1, c1, c2, c3, c4, c5, c6, c7, -⟩ := m_undo41 (s := backN A v) hA.2.1 h1.2.2.2.1 h1.2.2.2.2.1 (by omega) hb h1.2.2.2.2.2.2 hQ wQ
    refine ⟨I1, L1, ?_, ?_, ?_⟩
    · unfold F_X6_undo F_X6_undo_b17
      rw [well0, m_inB, cal1_s, q, bi_if, if_pos rfl, h1.2.2.2.1]
      unfold backN at c1
      by_cases q2 : A.2.2.1.length - 1 ≤ nV v
      · rw [if_pos q2] at c1
        rw [if_pos (by rw [e1]; exact nI_le q2 (by omega)), c1]; unfold backN; rw [if_pos q2]
      · rw [if_neg q2, ← e1] at c1
        rw [if_neg (by rw [e1]; exact nI_ge (by omega) (by omega)), c1]; unfold backN; rw [if_neg q2, ← e1]
    · rw [c7 0 (by omega) (by omega) (by omega) (by omega) (by omega)]; exact th_s _ _
    · refine ⟨fun k hk => ?_, ?_, ?_, ?_, c4, ?_, c5⟩
      · rw [c7 (k + 1) (by omega) (by omega) (by omega) (by omega) (by omega)]; exact h1.1 k hk
      · rw [c6 1 (by omega)]; exact h1.2.1
      · show MRep I1 L1 (cur (A.2.2.1.take (A.2.2.1.length - 1 - backN A v + 1)))
        rw [cur_take _ hlt hQ]; exact c2
      · show I1 0 13 = nI ((A.2.2.1.take (A.2.2.1.length - 1 - backN A v + 1)).length - 1)
        rw [List.length_take, c3]; congr 1; omega
      · rw [c7 14 (by omega) (by omega) (by omega) (by omega) (by omega)]; exact h1.2.2.2.2.2.1
def safeA (A : AS) : List Pos := safeL A.2.1 (200 - (A.2.2.1.length - 1)) (cur A.2.2.1)
def aSafe (A : AS) : Nat × Int32 × AS := (0, nI (safeA A).length, (A.1, A.2.1, A.2.2.1 ++ safeA A, A.2.2.2))
theorem safeL_len (R : Nat → Nat) : ∀ (n : Nat) (P : Pos), (safeL R n P).length ≤ n
  | 0, _ => Nat.le_refl 0
  | n + 1, P => by
    show (match (List.range 8).find? (safeAt R P) with | none => [] | some f => playP R P f 8 1 :: safeL R n (playP R P f 8 1)).length ≤ n + 1
    cases (List.range 8).find? (safeAt R P) with
    | none => exact Nat.zero_le _
    | some f => exact Nat.succ_le_succ (safeL_len R n _)
theorem safeL_wf {R : Nat → Nat} (hR : RulesOk R) : ∀ (n : Nat) (P : Pos), WF R P → ∀ Q, Q ∈ safeL R n P → WF R Q
  | 0, _, _, Q, h => absurd h List.not_mem_nil
  | n + 1, P, w, Q, h => by
    change Q ∈ (match (List.range 8).find? (safeAt R P) with | none => [] | some f => playP R P f 8 1 :: safeL R n (playP R P f 8 1)) at h
    cases e : (List.range 8).find? (safeAt R P) with
    | none => rw [e] at h; exact absurd h List.not_mem_nil
    | some f =>
      rw [e] at h
      have hs := List.find?_some e
      unfold safeAt at hs
      rw [Bool.and_eq_true] at hs
      have wC := wf_play w hR (Nat.le_refl 1) (Or.inl rfl) hs.1
      rcases List.mem_cons.mp h with z | z
      · rw [z]; exact wC
      · exact safeL_wf hR n _ wC Q z
theorem cur_safe {l : List Pos} (hl : 1 ≤ l.length) (cs : List Pos) : cur (l ++ cs) = (cur l :: cs).getLast (by simp) := by
  cases cs with
  | nil =>
    rw [List.append_nil]; rfl
  | cons c cs =>
    unfold cur
    rw [List.getLast?_append, List.getLast_cons (by simp), List.getLast?_eq_some_getLast (by simp)]; rfl
theorem M_safe {A : AS} {I : Nat → Nat → Int32} {L : Nat → Nat → Int64} (hA : okA A) (h : MSt A I L) :
    okA (aSafe A).2.2 ∧ MStep (F_X6_safe I L) (aSafe A) := by
  have hlen := hA.2.2.1
  have hlen2 := hA.2.2.2.1
  have hc : (safeA A).length ≤ 200 - (A.2.2.1.length - 1) := safeL_len _ _ _
  refine ⟨⟨hA.1, hA.2.1, ?_, ?_, fun Q hQ => ?_, ?_, hA.2.2.2.2.2.2⟩, ?_⟩
  · show 1 ≤ (A.2.2.1 ++ safeA A).length
    rw [List.length_append]; omega
  · show (A.2.2.1 ++ safeA A).length ≤ 201
    rw [List.length_append]; omega
  · rcases List.mem_append.mp hQ with z | z
    · exact hA.2.2.2.2.1 Q z
    · exact safeL_wf hA.2.1 _ _ hA.wf Q z
  · show (A.2.2.1 ++ safeA A)[0]? = _
    rw [List.getElem?_append_left (by omega)]; exact hA.2.2.2.2.2.1
  have h1 := h.th (nI 0)
  obtain ⟨I1, L1, a1, a2, a3, a4, a5, a6, -⟩ := m_safe9 (R := A.2.1) (200 - (A.2.2.1.length - 1)) FU (cur A.2.2.1) A.2.2.1 (A.2.2.1.length - 1) 0 (st2 I 0 0 (nI 0)) L (by omega) (FU_gt (by omega)) hA.wf (by omega) h1.2.1 h1.2.2.1 h1.2.2.2.1 h1.2.2.2.2.2.2
  refine ⟨I1, L1, ?_, ?_, ?_⟩
  · unfold F_X6_safe
    rw [bnd_s, a1, Nat.zero_add]; rfl
  · rw [a6.2 0 (by omega) (by omega) (by omega) (by omega)]; exact th_s _ _
  · refine ⟨fun k hk => ?_, ?_, ?_, ?_, ?_, ?_, a5⟩
    · rw [a6.2 (k + 1) (by omega) (by omega) (by omega) (by omega)]; exact h1.1 k hk
    · rw [a6.1 1 (by omega)]; exact h1.2.1
    · show MRep I1 L1 (cur (A.2.2.1 ++ safeA A))
      rw [cur_safe hlen]; exact a2
    · show I1 0 13 = nI ((A.2.2.1 ++ safeA A).length - 1)
      rw [List.length_append, a4]; congr 1
      show A.2.2.1.length - 1 + (safeA A).length = _
      omega
    · rw [a6.2 12 (by omega) (by omega) (by omega) (by omega)]; exact h1.2.2.2.2.1
    · rw [a6.2 14 (by omega) (by omega) (by omega) (by omega)]; exact h1.2.2.2.2.2.1
