/-! ===== the class: undo, safe, what is told ===== -/
theorem C_undo {A : AS} {P rn r : Nat → Int32} {D T : Nat → Nat → Int32} {S : Nat → Nat → Int64} (hA : okA A) (h : CSt A P rn r D T S) (v : Int32) :
    ∃ P' T', F_X5_undo S P T v = some ((aUndo A v).1, (aUndo A v).2.1, P', T') ∧ CSt (aUndo A v).2.2 P' rn r D T' S := by
  have hlen := hA.2.2.1
  have hlen2 := hA.2.2.2.1
  unfold aUndo F_X5_undo
  rw [s_within, cal1_s, bi_if]
  by_cases q : inB v 1 200 = true
  · rw [if_pos q, if_pos q]
    obtain ⟨e1, a1, b1⟩ := inB_nV (by omega) (by omega) q
    have eb : (if P 7 < v then P 7 else v) = nI (backN A v) := by
      rw [h.2.2.2.1]
      unfold backN
      by_cases z : A.2.2.1.length - 1 < nV v
      · rw [if_pos (by rw [e1]; exact nI_lt z (by omega)), if_pos (by omega)]
      · rw [if_neg (by rw [e1]; exact nI_nlt (by omega) (by omega))]
        by_cases z2 : A.2.2.1.length - 1 ≤ nV v
        · rw [if_pos z2, show A.2.2.1.length - 1 = nV v by omega]; exact e1
        · rw [if_neg z2]; exact e1
    have hb : backN A v ≤ A.2.2.1.length - 1 := by unfold backN; split <;> omega
    rw [eb]
    by_cases q2 : backN A v = 0
    · rw [q2, if_pos (nI_le (Nat.le_refl _) (by omega))]
      refine ⟨P, T, rfl, ?_⟩
      have et : A.2.2.1.take (A.2.2.1.length - 1 - 0 + 1) = A.2.2.1 := by rw [List.take_of_length_le (by omega)]
      rw [et, Nat.add_zero]
      exact h
    · rw [if_neg (nI_ge (by omega) (by omega)), bnd_s, h.2.2.2.1, pk_sub hb, bnd_s]
      have hlt : A.2.2.1.length - 1 - backN A v < A.2.2.1.length := by omega
      obtain ⟨Q, hQ⟩ : ∃ Q, A.2.2.1[A.2.2.1.length - 1 - backN A v]? = some Q := ⟨_, List.getElem?_eq_getElem hlt⟩
      have wQ := hA.2.2.2.2.1 Q (List.mem_of_getElem? hQ)
      have h72 : wQ.1 = wQ.1 := rfl
      have htu : Q.2.2.2 ≤ 2 := by
        have := wQ.2.2.2.2.2.2.2.2
        have hR := hA.2.1
        unfold RulesOk at hR
        omega
      obtain ⟨T', f1, f2⟩ := s_fetch (T := T) (n := 200) wQ.1 htu (by omega) (show A.2.2.1.length - 1 - backN A v < 200 by omega) (h.2.2.2.2.2.2.1 _ Q hQ (by omega))
      have e7 : upd (upd P 7 (nI (A.2.2.1.length - 1 - backN A v))) 8 (upd P 7 (nI (A.2.2.1.length - 1 - backN A v)) 8 + nI (backN A v)) 7 = nI (A.2.2.1.length - 1 - backN A v) := by
        rw [upd_s, if_neg (by omega), upd_s, if_pos rfl]
      rw [e7, f1, cal1_s]
      refine ⟨_, T', rfl, ?_⟩
      refine ⟨h.1, h.2.1, ?_, ?_, ?_, ?_, ?_, h.2.2.2.2.2.2.2⟩
      · show TRep T' (cur (A.2.2.1.take (A.2.2.1.length - 1 - backN A v + 1)))
        rw [cur_take _ hlt hQ]; exact f2
      · rw [e7]
        show _ = nI ((A.2.2.1.take (A.2.2.1.length - 1 - backN A v + 1)).length - 1)
        rw [List.length_take]; congr 1; omega
      · rw [upd_s, if_pos rfl, upd_s, if_neg (by omega), h.2.2.2.2.1, nI_add]
      · rw [upd_s, if_neg (by omega), upd_s, if_neg (by omega)]; exact h.2.2.2.2.2.1
      · intro i X hi hl
        change (A.2.2.1.take (A.2.2.1.length - 1 - backN A v + 1))[i]? = some X at hi
        change i + 1 < (A.2.2.1.take (A.2.2.1.length - 1 - backN A v + 1)).length at hl
        rw [List.length_take] at hl
        rw [List.getElem?_take, if_pos (by omega)] at hi
        exact h.2.2.2.2.2.2.1 i X hi (by omega)
  · rw [if_neg q, if_neg q]
    exact ⟨P, T, rfl, h⟩
theorem C_safe_L {v1 : Int32} {rn r : Nat → Int32} {D : Nat → Nat → Int32} : ∀ (n m : Nat) (A : AS) (P : Nat → Int32) (T : Nat → Nat → Int32) (S : Nat → Nat → Int64), n = 200 - (A.2.2.1.length - 1) → n < m → okA A → CSt A P rn r D T S →
    ∃ P' T' S', F_X5_safe_L19 r m P T S v1 (optI ((List.range 8).find? (safeAt A.2.1 (cur A.2.2.1)))) (nI n) = some (nI (A.2.2.1.length - 1 + (safeL A.2.1 n (cur A.2.2.1)).length) - v1, P', T', S') ∧ CSt (A.1, A.2.1, A.2.2.1 ++ safeL A.2.1 n (cur A.2.2.1), A.2.2.2) P' rn r D T' S' := by
  intro n
  induction n with
  | zero =>
    intro m A P T S hn hm hA h
    obtain ⟨m, rfl⟩ : ∃ q, m = q + 1 := ⟨m - 1, by omega⟩
    refine ⟨P, T, S, ?_, ?_⟩
    · show F_X5_safe_s19 r (F_X5_safe_L19 r m) _ _ _ _ _ _ = _
      unfold F_X5_safe_s19 F_X5_safe_b50
      rw [if_pos (nI_le (Nat.le_refl _) (by omega)), h.2.2.2.1]; rfl
    · show CSt (A.1, A.2.1, A.2.2.1 ++ [], A.2.2.2) P rn r D T S
      rw [List.append_nil]; exact h
  | succ n ih =>
    intro m A P T S hn hm hA h
    obtain ⟨m, rfl⟩ : ∃ q, m = q + 1 := ⟨m - 1, by omega⟩
    have eS : safeL A.2.1 (n + 1) (cur A.2.2.1) = match (List.range 8).find? (safeAt A.2.1 (cur A.2.2.1)) with | none => [] | some f => playP A.2.1 (cur A.2.2.1) f 8 1 :: safeL A.2.1 n (playP A.2.1 (cur A.2.2.1) f 8 1) := rfl
    cases e : (List.range 8).find? (safeAt A.2.1 (cur A.2.2.1)) with
    | none =>
      rw [e] at eS
      refine ⟨P, T, S, ?_, ?_⟩
      · rw [eS]
        show F_X5_safe_s19 r (F_X5_safe_L19 r m) _ _ _ _ _ _ = _
        unfold F_X5_safe_s19 F_X5_safe_b50
        rw [if_neg (nI_ge (by omega) (by omega)), if_pos (show optI none = -1 from rfl), h.2.2.2.1]; rfl
      · rw [eS, List.append_nil]; exact h
    | some f =>
      rw [e] at eS
      have hs := List.find?_some e
      have hf : f < 8 := List.mem_range.mp (List.mem_of_find?_eq_some e)
      unfold safeAt at hs
      rw [Bool.and_eq_true] at hs
      have wC := wf_play hA.wf hA.2.1 (Nat.le_refl 1) (Or.inl rfl) hs.1
      have hl200 : A.2.2.1.length ≤ 200 := by omega
      obtain ⟨P1, S1, T1, a1, a2⟩ := C_doMove hA h (f := f) (t := 8) (n := 1) (by omega) (by omega) (Nat.le_refl 1) (by omega) (Or.inl rfl) hs.1 hl200
      have hA1 := hA.push wC hl200
      have hl1 : (A.2.2.1 ++ [playP A.2.1 (cur A.2.2.1) f 8 1]).length = A.2.2.1.length + 1 := by rw [List.length_append]; rfl
      have hpos := hA.2.2.1
      have ecur : cur (A.2.2.1 ++ [playP A.2.1 (cur A.2.2.1) f 8 1]) = playP A.2.1 (cur A.2.2.1) f 8 1 := cur_app _ _
      obtain ⟨P', T', S', b1, b2⟩ := ih m (A.1, A.2.1, A.2.2.1 ++ [playP A.2.1 (cur A.2.2.1) f 8 1], A.2.2.2) P1 T1 S1 (by show n = 200 - ((A.2.2.1 ++ [playP A.2.1 (cur A.2.2.1) f 8 1]).length - 1); rw [hl1]; omega) (by omega) hA1 a2
      have fs := s_firstSafe a2.2.2.1 hA1.wf a2.2.1
      dsimp only at b1 b2 fs
      rw [ecur] at b1 b2 fs
      rw [hl1] at b1
      refine ⟨P', T', S', ?_, ?_⟩
      · rw [eS]
        show F_X5_safe_s19 r (F_X5_safe_L19 r m) _ _ _ _ _ _ = _
        unfold F_X5_safe_s19
        rw [if_neg (nI_ge (by omega) (by omega)), show optI (some f) = nI f from rfl, if_neg (fun y => (nI_negone (by omega)).mp y), a1, cal3_s, fs, cal1_s, dec_nI, b1, List.length_cons, show ∀ x : Nat, A.2.2.1.length + 1 - 1 + x = A.2.2.1.length - 1 + (x + 1) from fun x => by omega]
      · rw [eS]
        have := b2
        rw [List.append_assoc] at this
        exact this
theorem C_safe {A : AS} {P rn r : Nat → Int32} {D T : Nat → Nat → Int32} {S : Nat → Nat → Int64} (hA : okA A) (h : CSt A P rn r D T S) :
    ∃ P' T' S', F_X5_safe r P T S = some ((aSafe A).2.1, P', T', S') ∧ CSt (aSafe A).2.2 P' rn r D T' S' := by
  have hlen := hA.2.2.1
  have hlen2 := hA.2.2.2.1
  obtain ⟨P', T', S', a1, a2⟩ := C_safe_L (v1 := nI (A.2.2.1.length - 1)) (200 - (A.2.2.1.length - 1)) FU A P T S rfl (FU_gt (by omega)) hA h
  have hc : (safeA A).length ≤ 200 - (A.2.2.1.length - 1) := safeL_len _ _ _
  unfold F_X5_safe
  rw [s_firstSafe h.2.2.1 hA.wf h.2.1, cal1_s, h.2.2.2.1, pk_sub (by omega), a1]
  refine ⟨P', T', S', ?_, a2⟩
  show some (nI (A.2.2.1.length - 1 + (safeA A).length) - nI (A.2.2.1.length - 1), P', T', S') = some (nI (safeA A).length, P', T', S')
  rw [pk_sub (by omega), show A.2.2.1.length - 1 + (safeA A).length - (A.2.2.1.length - 1) = (safeA A).length by omega]
theorem C_moves {A : AS} {P rn r : Nat → Int32} {D T : Nat → Nat → Int32} {S : Nat → Nat → Int64} (hA : okA A) (h : CSt A P rn r D T S) :
    ∃ T', F_X5_moves P r T = some ((aMoves A).2.1, T') ∧ CSt (aMoves A).2.2 P rn r D T' S := by
  obtain ⟨T', a1, a2⟩ := s_listMoves h.2.2.1 hA.wf h.2.1
  unfold F_X5_moves
  rw [a1, cal1_s, a2.2.1]
  exact ⟨T', rfl, h.1, h.2.1, a2.1, h.2.2.2⟩
theorem C_moveAt {A : AS} {P rn r : Nat → Int32} {D T : Nat → Nat → Int32} {S : Nat → Nat → Int64} (hA : okA A) (h : CSt A P rn r D T S) (v : Int32) :
    ∃ T', F_X5_moveAt P r T v = some (if (aMoveAt A v).1 = 0 then 0 else 3, (aMoveAt A v).2.1, T') ∧ CSt (aMoveAt A v).2.2 P rn r D T' S := by
  unfold aMoveAt F_X5_moveAt
  by_cases q : v < nI 0
  · rw [if_pos q, if_neg (Int32.not_le.mpr q)]
    exact ⟨T, rfl, h⟩
  · rw [if_neg q, if_pos (Int32.not_lt.mp q)]
    obtain ⟨e, hv⟩ := pos_nV q
    obtain ⟨T', a1, a2⟩ := s_listMoves h.2.2.1 hA.wf h.2.1
    have a3 := s_listedAt a2 (mvs_le hA.2.1 hA.wf.1) hv
    rw [← e] at a3
    rw [a1, cal1_s, a3, cal1_s]
    exact ⟨T', rfl, h.1, h.2.1, a2.1, h.2.2.2⟩
theorem C_card {A : AS} {P rn r : Nat → Int32} {D T : Nat → Nat → Int32} {S : Nat → Nat → Int64} (hA : okA A) (h : CSt A P rn r D T S) (v1 v2 : Int32) :
    F_X5_card P T r v1 v2 = some ((aCard A v1 v2).1, (aCard A v1 v2).2.1) := by
  unfold aCard okCard F_X5_card
  rw [s_within, cal1_s, bi_if]
  by_cases q : inB v1 0 9 = true
  · rw [if_pos q, q, Bool.true_and]
    by_cases q2 : v2 < nI 0
    · rw [if_neg (Int32.not_le.mpr q2), decide_eq_false (Classical.not_not.mpr q2)]; rfl
    · rw [if_pos (Int32.not_lt.mp q2), decide_eq_true q2, if_pos rfl]
      obtain ⟨e1, -, b1⟩ := inB_nV (by omega) (by omega) q
      obtain ⟨e2, b2⟩ := pos_nV q2
      unfold cardA
      have w := hA.wf
      by_cases z8 : nV v1 = 8
      · have ev : v1 = nI 8 := by rw [e1, z8]
        have := s_highest h.2.2.1 w h.2.1 b2
        rw [← e2] at this
        rw [if_pos ev, this, cal1_s, if_neg (by omega), if_pos z8]
      · rw [if_neg (fun y => z8 (by rw [y]; unfold nV; rw [nI_toInt (by omega)]; rfl)), e1, s_isColumn (by omega), cal1_s, bi_if, ← e1]
        by_cases z5 : nV v1 < 5
        · have := s_seen h.2.2.1 w.1 z5 b2
          rw [← e1, ← e2] at this
          rw [if_pos (decide_eq_true z5), this, cal1_s, if_pos z5]
        · have := s_fromTop h.2.2.1 w.1 (show nV v1 < 10 by omega) b2
          rw [← e1, ← e2] at this
          rw [if_neg (by rw [decide_eq_true_eq]; exact z5), this, cal1_s, if_neg z5, if_neg z8]
  · rw [if_neg q, if_neg (by rw [Bool.and_eq_true]; exact fun y => q y.1)]
