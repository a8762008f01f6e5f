/-! ===== the second reading: a position learnt ===== -/
def FrM (I I' : Nat → Nat → Int32) : Prop := (∀ a, 10 ≤ a ∨ a = 1 ∨ a = 2 → I' a = I a) ∧ ∀ j, j ≠ 21 → j ≠ 23 → j ≠ 24 → j ≠ 29 → I' 0 j = I 0 j
def FrLM (L L' : Nat → Nat → Int64) : Prop := L' 1 = L 1 ∧ L' 2 = L 2
theorem FrI.m {I I' : Nat → Nat → Int32} (h : FrI I I') : FrM I I' := ⟨h.1, fun j a b c _ => h.2 j a b c⟩
theorem FrL.m {L L' : Nat → Nat → Int64} (h : FrL L L') : FrLM L L' := ⟨h 1 (by omega), h 2 (by omega)⟩
theorem FrM.trans {I I' I'' : Nat → Nat → Int32} (h : FrM I I') (h2 : FrM I' I'') : FrM I I'' := ⟨fun a ha => (h2.1 a ha).trans (h.1 a ha), fun j a b c d => (h2.2 j a b c d).trans (h.2 j a b c d)⟩
theorem FrLM.trans {L L' L'' : Nat → Nat → Int64} (h : FrLM L L') (h2 : FrLM L' L'') : FrLM L L'' := ⟨h2.1.trans h.1, h2.2.trans h.2⟩
theorem FrM.refl (I : Nat → Nat → Int32) : FrM I I := ⟨fun _ _ => rfl, fun _ _ _ _ _ => rfl⟩
theorem FrLM.refl (L : Nat → Nat → Int64) : FrLM L L := ⟨rfl, rfl⟩
theorem SF.m {L L' : Nat → Nat → Int64} {cc o : Nat} (h : SF L L' cc o) (h1 : cc ≠ 1) (h2 : cc ≠ 2) : FrLM L L' := ⟨funext fun j => h 1 j (by omega) (fun y => h1 y.1.symm), funext fun j => h 2 j (by omega) (fun y => h2 y.1.symm)⟩
theorem SI.m {P : Pos} {L L' : Nat → Nat → Int64} {cc o : Nat} (h : SI P L L' cc o 8) (h1 : cc ≠ 1) (h2 : cc ≠ 2) : FrLM L L' := ⟨funext fun j => h.2 1 j (fun y => h1 y.1.symm), funext fun j => h.2 2 j (fun y => h2 y.1.symm)⟩
theorem MK.fr {R : Nat → Nat} {I I' : Nat → Nat → Int32} {L L' : Nat → Nat → Int64} {KP : List Pos} (h : MK R I L KP) (hI : FrI I I') (hL : FrL L L') : MK R I' L' KP :=
  ⟨by rw [hI.2 29 (by omega) (by omega) (by omega)]; exact h.1, fun i P hi => by
    rw [hL 3 (by omega), hL 4 (by omega)]; exact h.2 i P hi⟩
theorem m_learn76 {R : Nat → Nat} (hR : RulesOk R) {I : Nat → Nat → Int32} {L : Nat → Nat → Int64} {KP : List Pos} {P : Pos} {k : Nat} (h : MK R I L KP) (hk : KP[k]? = some P) (hK : KP.length ≤ 401) (v6 : Int32) :
    ∃ I' L', F_X6_learn_b76 I L (nI k) v6 = some (v6, I', L') ∧ MRep I' L' P ∧ MK R I' L' KP ∧ FrI I I' ∧ FrL L L' := by
  obtain ⟨a, -, w⟩ := h.2 k P hk
  have hlt : k < KP.length := (List.getElem?_eq_some_iff.mp hk).1
  unfold F_X6_learn_b76
  rw [pk_mul]
  obtain ⟨I', L', e1, e2, e3, e4⟩ := m_load (I := I) (cc := 3) (nn := 3216) (o := 8 * k) (w.kok hR) (by omega) (by omega) (by omega) a
  rw [e1, cal2_s]
  exact ⟨I', L', rfl, e2, h.fr e3 e4, e3, e4⟩
/-- what comes of one move: 0 go on, 1 won, 2 too many; and the positions known -/
def learnA (R : Nat → Nat) (b : Nat) (C : Pos) (KP : List Pos) : Nat × List Pos :=
  if knownB KP C = true then (0, KP) else if KP.length < b then (if wonB R C = true then 1 else 0, KP ++ [C]) else (2, KP)
theorem m_learn {R : Nat → Nat} {I : Nat → Nat → Int32} {L : Nat → Nat → Int64} {KP : List Pos} {P : Pos} {k f t n b : Nat} (hr : RR (I 1) R) (hP : MRep I L P) (wP : WF R P) (h : MK R I L KP) (hk : KP[k]? = some P) (hb : KP.length ≤ b) (hb4 : b ≤ 400)
    (ht : t < 9) (hn : 1 ≤ n) (hn16 : n ≤ 16) (h1 : n = 1 ∨ (f < 5 ∧ t < 5)) (hl : legal R P f t n = true) :
    ∃ I' L', F_X6_learn I L (nI k) (nI f) (nI t) (nI n) (nI b) = some (nI (learnA R b (playP R P f t n) KP).1, I', L') ∧ MRep I' L' P ∧ MK R I' L' (learnA R b (playP R P f t n) KP).2 ∧ FrM I I' ∧ FrLM L L' := by
  have wC := wf_play wP hr.2 hn h1 hl
  obtain ⟨I1, L1, a1, a2, a3, a4⟩ := m_play hP wP hr ht hn hn16 h1 hl
  have hr1 : RR (I1 1) R := by rw [a3.1 1 (by omega)]; exact hr
  have hK1 := h.fr a3 a4
  obtain ⟨L2, b1, b2, b3⟩ := m_isKnown hr1 a2 wC hK1 (by omega)
  have hK2 := hK1.sf hr.2 b2
  have hC2 : MRep I1 L2 (playP R P f t n) := a2.atL (funext fun j => b2 0 j (by omega) (by omega))
  have fm := a4.m.trans (b2.m (by omega) (by omega))
  unfold F_X6_learn learnA
  rw [a1, cal2_s, b1, cal2_s, bi_if]
  generalize playP R P f t n = C at *
  cases z : knownB KP C with
  | true =>
    rw [if_pos (show true = true from rfl), if_pos (show true = true from rfl)]
    obtain ⟨I', L', e1, e2, e3, e4, e5⟩ := m_learn76 hr.2 hK2 hk (by omega) (nI 0)
    exact ⟨I', L', e1, e2, e3, a3.m.trans e4.m, fm.trans e5.m⟩
  | false =>
    rw [if_neg (show ¬ false = true by decide), if_neg (show ¬ false = true by decide), hK1.1]
    by_cases q : KP.length < b
    · have b43 : ∀ v, v < 2 → ∃ I' L', F_X6_learn_b43 I1 L2 (nI k) (nI v) = some (nI v, I', L') ∧ MRep I' L' P ∧ MK R I' L' (KP ++ [C]) ∧ FrM I I' ∧ FrLM L L' := by
        intro v hv
        unfold F_X6_learn_b43
        obtain ⟨L3, c1, c2⟩ := m_store (cc := 3) (nn := 3216) (o := 8 * KP.length) hC2 (wC.kok hr.2) (by omega) (by omega) (by omega)
        rw [if_neg (nI_ge hv (by omega)), hK1.1, pk_mul, c1, cal1_s, bnd_s, nI_add]
        have hK3 : MK R (st2 I1 0 29 (nI (KP.length + 1))) L3 (KP ++ [C]) := hK2.push hr.2 wC c2 b3 (by simp [st2_s])
        obtain ⟨I', L', e1, e2, e3, e4, e5⟩ := m_learn76 (k := k) (P := P) hr.2 hK3 (by rw [List.getElem?_append_left (List.getElem?_eq_some_iff.mp hk).1]; exact hk) (by simp; omega) (nI v)
        have f29 : FrM I1 (st2 I1 0 29 (nI (KP.length + 1))) := ⟨fun a ha => funext fun j => by rw [st2_s, if_neg (by omega)], fun j _ _ _ h29 => by rw [st2_s, if_neg (fun y => h29 y.2)]⟩
        exact ⟨I', L', e1, e2, e3, (a3.m.trans f29).trans e4.m, (fm.trans (c2.m (by omega) (by omega))).trans e5.m⟩
      rw [if_neg (by rw [nI_eq (by omega) (by omega)]; omega), m_isWon hC2 wC hr1, cal1_s, bi_if, if_pos q]
      cases z2 : wonB R C with
      | true => rw [if_pos (show true = true from rfl), if_pos (show true = true from rfl)]; exact b43 1 (by omega)
      | false => rw [if_neg (show ¬ false = true by decide), if_neg (show ¬ false = true by decide)]; exact b43 0 (by omega)
    · rw [if_pos (by rw [show KP.length = b by omega]), if_neg q]
      unfold F_X6_learn_b43
      rw [if_pos (nI_le (by omega) (by omega))]
      obtain ⟨I', L', e1, e2, e3, e4, e5⟩ := m_learn76 hr.2 hK2 hk (by omega) (nI 2)
      exact ⟨I', L', e1, e2, e3, a3.m.trans e4.m, fm.trans e5.m⟩
