/-! ===== the second reading: what moves, moveAt, search and known tell ===== -/
theorem mvs_small {R : Nat → Nat} {P : Pos} {m : Nat} (h : m ∈ mvs R P) : m < 10000 := by
  obtain ⟨f, t, n, rfl, hf, ht, -, hn, -, -, -⟩ := mem_mvs h
  unfold codeN; omega
theorem find_len (R : Nat → Nat) (P : Pos) : (-1 : Int32) - findR (mvs R P) (-1) 0 = nI (mvs R P).length := by
  have h := mvs_len R P
  rw [findR_m1 _ _ (by omega), Nat.zero_add, m1_sub (by omega)]
theorem find_at (R : Nat → Nat) (P : Pos) {m : Nat} (hm : m < 2 ^ 31) : (if nI 0 ≤ findR (mvs R P) (nI m) 0 then findR (mvs R P) (nI m) 0 else -1) = optI (mvs R P)[m]? := by
  have h := mvs_len R P
  rw [findR_at _ _ _ (by omega) (Nat.zero_le _) hm, Nat.sub_zero, Nat.zero_add]
  cases e : (mvs R P)[m]? with
  | none =>
    dsimp only
    rw [if_neg (m1_neg (by omega))]; rfl
  | some c =>
    have hc := mvs_small (List.mem_of_getElem? e)
    dsimp only
    rw [if_pos (nI_le (Nat.zero_le _) (by omega))]; rfl
theorem MRep.st0 {I : Nat → Nat → Int32} {L : Nat → Nat → Int64} {P : Pos} (h : MRep I L P) {k : Nat} (hk : k ≠ 21 ∧ k ≠ 23 ∧ k ≠ 24) (x : Int32) : MRep (st2 I 0 k x) L P := by
  have g : ∀ a j, ¬ (a = 0 ∧ j = k) → st2 I 0 k x a j = I a j := fun a j ha => by rw [st2_s, if_neg ha]
  refine ⟨fun p hp => ?_, fun j hj => ?_, fun s hs => ?_, ⟨?_, fun i hi => ?_⟩, ⟨?_, fun i hi => ?_⟩, ?_⟩
  · rw [g 3 p (by omega), g 4 p (by omega)]; exact h.1 p hp
  · rw [g 5 j (by omega)]; exact h.2.1 j hj
  · rw [g 6 s (by omega)]; exact h.2.2.1 s hs
  · rw [g 0 21 (by omega)]; exact h.2.2.2.1.1
  · rw [g 7 i (by omega)]; exact h.2.2.2.1.2 i hi
  · rw [g 0 23 (by omega)]; exact h.2.2.2.2.1.1
  · rw [g 8 i (by omega)]; exact h.2.2.2.2.1.2 i hi
  · rw [g 0 24 (by omega)]; exact h.2.2.2.2.2
theorem st0_rr {I : Nat → Nat → Int32} {R : Nat → Nat} (hr : RR (I 1) R) (k : Nat) (x : Int32) : RR (st2 I 0 k x 1) R := by
  rw [show st2 I 0 k x 1 = I 1 from funext fun j => by rw [st2_s, if_neg (by omega)]]; exact hr
theorem m_moves {I : Nat → Nat → Int32} {L : Nat → Nat → Int64} {R : Nat → Nat} {P : Pos} (h : MRep I L P) (w : WF R P) (hr : RR (I 1) R) : F_X6_moves L I = some (nI (mvs R P).length, st2 I 0 0 (nI 0)) := by
  unfold F_X6_moves
  rw [bnd_s, m_find (h.st0 (by omega) _) w (st0_rr hr _ _), cal1_s, find_len]
theorem m_in (v a b : Int32) : F_X6_in v a b = some (bi (decide (a ≤ v) && decide (v ≤ b))) := by
  unfold F_X6_in
  by_cases q : v < a
  · have : ¬ a ≤ v := fun y => by rw [Int32.le_iff_toInt_le] at y; rw [Int32.lt_iff_toInt_lt] at q; omega
    rw [if_pos q, zb0, decide_eq_false this]; rfl
  · have h1 : a ≤ v := by rw [Int32.le_iff_toInt_le]; rw [Int32.lt_iff_toInt_lt] at q; omega
    rw [if_neg q, decide_eq_true h1]
    by_cases q2 : b < v
    · have : ¬ v ≤ b := fun y => by rw [Int32.le_iff_toInt_le] at y; rw [Int32.lt_iff_toInt_lt] at q2; omega
      rw [if_pos q2, zb0, decide_eq_false this]; rfl
    · have h2 : v ≤ b := by rw [Int32.le_iff_toInt_le]; rw [Int32.lt_iff_toInt_lt] at q2; omega
      rw [if_neg q2, zb1, decide_eq_true h2]; rfl
theorem m_goesWell (L : Nat → Nat → Int64) (I : Nat → Nat → Int32) (s : Int32) : F_X6_goesWell L I s = some (bi (decide (s = nI 0)), st2 I 0 0 s) := by
  unfold F_X6_goesWell
  rw [bnd_s, zb0, zb1]
  by_cases q : s = nI 0
  · rw [if_pos q, decide_eq_true q]; rfl
  · rw [if_neg q, decide_eq_false q]; rfl
/-- the number thrown is told, and nothing else done -/
theorem m_moveAt {I : Nat → Nat → Int32} {L : Nat → Nat → Int64} {R : Nat → Nat} {P : Pos} (h : MRep I L P) (w : WF R P) (hr : RR (I 1) R) {m : Nat} (hm : m < 2 ^ 31) : F_X6_moveAt L I (nI m) = some (optI (mvs R P)[m]?, st2 I 0 0 (nI 0)) := by
  unfold F_X6_moveAt F_X6_moveAt_b10
  rw [if_neg (nI_nlt (Nat.zero_le _) (by omega)), m_goesWell, cal2_s, decide_eq_true rfl, if_neg (show ¬ bi true = nI 0 by decide), m_find (h.st0 (by omega) _) w (st0_rr hr _ _), cal1_s, ← find_at R P hm]
  split <;> rfl
theorem m_moveAt_neg {I : Nat → Nat → Int32} {L : Nat → Nat → Int64} {v : Int32} (hv : v < nI 0) : F_X6_moveAt L I v = some (nI 0, st2 I 0 0 (nI 1)) := by
  unfold F_X6_moveAt F_X6_moveAt_b10
  rw [if_pos hv, m_goesWell, cal2_s, decide_eq_false (show ¬ nI 1 = nI 0 by decide), if_pos (show bi false = nI 0 from rfl)]
theorem inside_n {v : Int32} {a b : Nat} (ha : a < 2 ^ 31) (hb : b < 2 ^ 31) (h : (decide (nI a ≤ v) && decide (v ≤ nI b)) = true) : ∃ n, v = nI n ∧ a ≤ n ∧ n ≤ b := by
  simp only [Bool.and_eq_true, decide_eq_true_eq, Int32.le_iff_toInt_le, nI_toInt ha, nI_toInt hb] at h
  have e : nI v.toInt.toNat = v := by
    apply Int32.toInt_inj.mp
    rw [nI_toInt (by omega)]; omega
  exact ⟨v.toInt.toNat, e.symm, by omega, by omega⟩
theorem m_search {I : Nat → Nat → Int32} {L : Nat → Nat → Int64} {R : Nat → Nat} {P : Pos} (h : MRep I L P) (w : WF R P) (hr : RR (I 1) R) {b : Nat} (hb1 : 1 ≤ b) (hb4 : b ≤ 400) : ∃ I' L', F_X6_search I L (nI b) = some ((searchA R b P).1, I', L') ∧ MRep I' L' P ∧ FrM (st2 I 0 0 (nI 0)) I' ∧ FrLM L L' := by
  obtain ⟨I', L', a, b2, c, d, -⟩ := m_look (st0_rr hr 0 (nI 0)) (h.st0 (k := 0) (by omega) (nI 0)) w hb1 hb4
  unfold F_X6_search F_X6_search_b17
  rw [m_in, cal1_s, decide_eq_true (show nI 1 ≤ nI b from nI_le hb1 (by omega)), decide_eq_true (show nI b ≤ nI 400 from nI_le hb4 (by omega)), if_neg (show ¬ bi (true && true) = nI 0 by decide), m_goesWell, cal2_s, decide_eq_true rfl, if_neg (show ¬ bi true = nI 0 by decide), a, cal3_s]
  exact ⟨I', L', rfl, b2, c, d⟩
theorem m_known {I : Nat → Nat → Int32} {L : Nat → Nat → Int64} {R : Nat → Nat} {P : Pos} (h : MRep I L P) (w : WF R P) (hr : RR (I 1) R) {b : Nat} (hb1 : 1 ≤ b) (hb4 : b ≤ 400) : ∃ I' L', F_X6_known I L (nI b) = some (nI (searchA R b P).2.length, I', L') ∧ MRep I' L' P ∧ FrM (st2 I 0 0 (nI 0)) I' ∧ FrLM L L' := by
  obtain ⟨I', L', a, b2, c, d, e⟩ := m_look (st0_rr hr 0 (nI 0)) (h.st0 (k := 0) (by omega) (nI 0)) w hb1 hb4
  unfold F_X6_known F_X6_known_b17
  rw [m_in, cal1_s, decide_eq_true (show nI 1 ≤ nI b from nI_le hb1 (by omega)), decide_eq_true (show nI b ≤ nI 400 from nI_le hb4 (by omega)), if_neg (show ¬ bi (true && true) = nI 0 by decide), m_goesWell, cal2_s, decide_eq_true rfl, if_neg (show ¬ bi true = nI 0 by decide), a, cal3_s, e]
  exact ⟨I', L', rfl, b2, c, d⟩
