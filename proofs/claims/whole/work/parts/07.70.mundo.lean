/-! ===== the second reading: moves undone ===== -/
theorem MPast.take {L : Nat → Nat → Int64} {past : List Pos} (h : MPast L past) (n : Nat) : MPast L (past.take n) := fun i P hi => h i P (by
  rw [List.getElem?_take] at hi
  split at hi
  · exact hi
  · cases hi)
theorem m_undo41 {I : Nat → Nat → Int32} {L : Nat → Nat → Int64} {R : Nat → Nat} {past : List Pos} {Q : Pos} {done undone s : Nat} (hR : RulesOk R) (h13 : I 0 13 = nI done) (h12 : I 0 12 = nI undone) (hd : done ≤ 200) (hs : s ≤ done) (hp : MPast L past) (hQ : past[done - s]? = some Q) (wQ : WF R Q) :
    ∃ I' L', F_X6_undo_b41 I L (nI s) = some (nI s, I', L') ∧ MRep I' L' Q ∧ I' 0 13 = nI (done - s) ∧ I' 0 12 = nI (undone + s) ∧ MPast L' (past.take (done - s + 1)) ∧ (∀ a, 10 ≤ a ∨ a = 1 ∨ a = 2 → I' a = I a) ∧ (∀ j, j ≠ 12 → j ≠ 13 → j ≠ 21 → j ≠ 23 → j ≠ 24 → I' 0 j = I 0 j) ∧ L' 2 = L 2 := by
  unfold F_X6_undo_b41
  have e12 : st2 I 0 13 (nI (done - s)) 0 12 = nI undone := by rw [st2_s, if_neg (by omega)]; exact h12
  have e13 : st2 (st2 I 0 13 (nI (done - s))) 0 12 (nI (undone + s)) 0 13 = nI (done - s) := by rw [st2_s, if_neg (by omega), st2_s, if_pos ⟨rfl, rfl⟩]
  obtain ⟨I', L', a1, a2, a3, a4⟩ := m_load (I := st2 (st2 I 0 13 (nI (done - s))) 0 12 (nI (undone + s))) (cc := 1) (nn := 1616) (o := 8 * (done - s)) (wQ.kok hR) (by omega) (by omega) (by omega) (hp _ Q hQ)
  rw [h13, pk_sub hs, bnd_s, e12, nI_add, bnd_s, e13, pk_mul, a1, cal2_s]
  refine ⟨I', L', rfl, a2, ?_, ?_, ?_, ?_, ?_, a4 2 (by omega)⟩
  · rw [a3.2 13 (by omega) (by omega) (by omega)]; exact e13
  · rw [a3.2 12 (by omega) (by omega) (by omega), st2_s, if_pos ⟨rfl, rfl⟩]
  · intro i P hi j hj
    rw [a4 1 (by omega)]
    exact hp.take _ i P hi j hj
  · intro a ha
    rw [a3.1 a ha]
    funext j
    rw [st2_s, if_neg (by omega), st2_s, if_neg (by omega)]
  · intro j x1 x2 x3 x4 x5
    rw [a3.2 j x3 x4 x5, st2_s, if_neg (fun y => x1 y.2), st2_s, if_neg (fun y => x2 y.2)]
