/-! ===== the second reading: a move done, and kept ===== -/
def FrD (I I' : Nat → Nat → Int32) : Prop := (∀ a, 10 ≤ a ∨ a = 1 ∨ a = 2 → I' a = I a) ∧ ∀ j, j ≠ 13 → j ≠ 21 → j ≠ 23 → j ≠ 24 → I' 0 j = I 0 j
/-- the positions there were, the one now last -/
def MPast (L : Nat → Nat → Int64) (past : List Pos) : Prop := ∀ i P, past[i]? = some P → ∀ j, j < 8 → L 1 (8 * i + j) = lN (keyL P j)
theorem m_doMove {I : Nat → Nat → Int32} {L : Nat → Nat → Int64} {R : Nat → Nat} {P : Pos} {past : List Pos} (h : MRep I L P) (w : WF R P) (hr : RR (I 1) R) {f t n done : Nat} (ht : t < 9) (hn : 1 ≤ n) (hn16 : n ≤ 16) (h1 : n = 1 ∨ (f < 5 ∧ t < 5)) (hl : legal R P f t n = true)
    (h13 : I 0 13 = nI done) (hd : done < 200) (hp : MPast L past) (hlen : past.length = done + 1) :
    ∃ I' L', F_X6_doMove I L (nI f) (nI t) (nI n) = some (I', L') ∧ MRep I' L' (playP R P f t n) ∧ I' 0 13 = nI (done + 1) ∧ MPast L' (past ++ [playP R P f t n]) ∧ FrD I I' ∧ L' 2 = L 2 := by
  have wC := wf_play w hr.2 hn h1 hl
  obtain ⟨I1, L1, a1, a2, a3, a4⟩ := m_play h w hr ht hn hn16 h1 hl
  have b13 : I1 0 13 = nI done := by rw [a3.2 13 (by omega) (by omega) (by omega)]; exact h13
  have hC := a2.st0 (k := 13) (by omega) (nI (done + 1))
  have e13 : st2 I1 0 13 (nI (done + 1)) 0 13 = nI (done + 1) := by rw [st2_s, if_pos ⟨rfl, rfl⟩]
  obtain ⟨L2, c1, c2⟩ := m_store (cc := 1) (nn := 1616) (o := 8 * (done + 1)) hC (wC.kok hr.2) (by omega) (by omega) (by omega)
  unfold F_X6_doMove
  rw [a1, cal2_s, b13, nI_add, bnd_s, e13, pk_mul, c1, cal1_s]
  refine ⟨_, L2, rfl, hC.atL (funext fun j => c2.2 0 j (by omega)), e13, ?_, ?_, ?_⟩
  · intro i Q hi j hj
    rcases Nat.lt_or_ge i past.length with z | z
    · rw [List.getElem?_append_left z] at hi
      rw [c2.2 1 _ (by omega), a4 1 (by omega)]
      exact hp i Q hi j hj
    · rw [List.getElem?_append_right z] at hi
      have h0 := (List.getElem?_eq_some_iff.mp hi).1
      simp only [List.length_cons, List.length_nil] at h0
      rw [show i - past.length = 0 by omega] at hi
      simp only [List.getElem?_cons_zero, Option.some.injEq] at hi
      subst hi
      rw [show i = done + 1 by omega]
      exact c2.1 j hj
  · exact ⟨fun a ha => by rw [← a3.1 a ha]; funext j; rw [st2_s, if_neg (by omega)], fun j x1 x2 x3 x4 => by rw [st2_s, if_neg (fun y => x1 y.2)]; exact a3.2 j x2 x3 x4⟩
  · funext j
    rw [c2.2 2 j (by omega), a4 2 (by omega)]
