/-! ===== the second reading: look, whole ===== -/
theorem m_look41 {R : Nat → Nat} {b : Nat} {P0 : Pos} (hb4 : b ≤ 400) : ∀ (d k lv n n41 : Nat) (I : Nat → Nat → Int32) (L : Nat → Nat → Int64) (KP : List Pos) (ST : Nat → Nat), k + d = 401 → 401 - k < n → 401 - k < n41 → 1 ≤ lv → lv ≤ k + 1 → RR (I 1) R → MK R I L KP → KP[0]? = some P0 → KP.length ≤ b → k ≤ KP.length → (∀ i, k ≤ i → i < KP.length → ST i = lv - 1) →
    LookR I L P0 (F_X6_look_L41 n41 I L (nI b) (-1) (nI k) (nI lv)) (bfsA R b n k KP ST) := by
  intro d
  induction d using Nat.strongRecOn with
  | _ d ihd =>
    intro k lv n n41 I L KP ST hd hn hn41 hlv hlvk hr h h0 hb hk hst
    obtain ⟨n41, rfl⟩ : ∃ q, n41 = q + 1 := ⟨n41 - 1, by omega⟩
    show LookR I L P0 (F_X6_look_s41 (F_X6_look_L41 n41) _ _ _ _ _ _) _
    unfold F_X6_look_s41
    rw [if_pos rfl, h.1]
    by_cases q : KP.length ≤ k
    · rw [if_pos (nI_le q (by omega))]
      obtain ⟨n, rfl⟩ : ∃ q, n = q + 1 := ⟨n - 1, by omega⟩
      have e : bfsA R b (n + 1) k KP ST = (-1, KP) := by
        show (match KP[k]? with | none => _ | some P => _) = _
        rw [List.getElem?_eq_none q]
      rw [e]
      exact m_look118 hr h h0 (-1)
    · rw [if_neg (nI_ge (by omega) (by omega))]
      obtain ⟨n41, rfl⟩ : ∃ q, n41 = q + 1 := ⟨n41 - 1, by omega⟩
      refine m_look63 (e := KP.length) hb4 hlv (by omega) ?_ (KP.length - k) k n FU I L KP ST (by omega) hn (FU_gt (by omega)) hr h h0 hb (Nat.le_refl _) (fun i h1 h2 => hst i h1 h2) (fun i h1 h2 => absurd h2 (by omega))
      intro n' I' L' KP' ST' a1 a2 a3 a4 a5 a6 a7
      refine ihd (401 - KP.length) (by omega) KP.length (lv + 1) n' (n41 + 1) I' L' KP' ST' (by omega) a1 (by omega) (by omega) (by omega) a2 a3 a4 a5 a6 (fun i h1 h2 => ?_)
      rw [a7 i h1 h2]; omega
theorem m_look {R : Nat → Nat} {I : Nat → Nat → Int32} {L : Nat → Nat → Int64} {P : Pos} {b : Nat} (hr : RR (I 1) R) (h : MRep I L P) (w : WF R P) (hb1 : 1 ≤ b) (hb4 : b ≤ 400) :
    LookR I L P (F_X6_look I L (nI b)) (searchA R b P) := by
  have hR := hr.2
  unfold F_X6_look
  rw [bnd_s]
  have f29 : FrM I (st2 I 0 29 (nI 1)) := ⟨fun a ha => funext fun j => by rw [st2_s, if_neg (by omega)], fun j _ _ _ h29 => by rw [st2_s, if_neg (fun y => h29 y.2)]⟩
  have h1 : MRep (st2 I 0 29 (nI 1)) L P := by
    have g : ∀ a j, ¬ (a = 0 ∧ j = 29) → st2 I 0 29 (nI 1) a j = I a j := fun a j ha => by rw [st2_s, if_neg ha]
    refine ⟨fun p hp => ?_, fun j hj => ?_, fun s hs => ?_, ⟨?_, fun i hi => ?_⟩, ⟨?_, fun i hi => ?_⟩, ?_⟩
    · rw [g 3 p (by omega), g 4 p (by omega)]; exact h.1 p hp
    · rw [g 5 j (by omega)]; exact h.2.1 j hj
    · rw [g 6 s (by omega)]; exact h.2.2.1 s hs
    · rw [g 0 21 (by omega)]; exact h.2.2.2.1.1
    · rw [g 7 i (by omega)]; exact h.2.2.2.1.2 i hi
    · rw [g 0 23 (by omega)]; exact h.2.2.2.2.1.1
    · rw [g 8 i (by omega)]; exact h.2.2.2.2.1.2 i hi
    · rw [g 0 24 (by omega)]; exact h.2.2.2.2.2
  have hr1 : RR (st2 I 0 29 (nI 1) 1) R := by rw [f29.1 1 (by omega)]; exact hr
  obtain ⟨L1, a1, a2⟩ := m_store (cc := 3) (nn := 3216) (o := 0) h1 (w.kok hR) (by omega) (by omega) (by omega)
  have h2 : MRep (st2 I 0 29 (nI 1)) L1 P := h1.atL (funext fun j => a2.2 0 j (by omega))
  obtain ⟨L2, b1, b2, b3⟩ := m_sort (cc := 4) (nn := 3216) (o := 0) hr1 h2 w (by omega) (by omega) (by omega) (by omega)
  have h3 : MRep (st2 I 0 29 (nI 1)) L2 P := h2.atL (funext fun j => b2 0 j (by omega) (by omega))
  rw [a1, cal1_s, b1, cal1_s, m_isWon h3 w hr1, cal1_s, bi_if]
  have hK : MK R (st2 I 0 29 (nI 1)) L2 [P] := by
    refine ⟨by simp [st2_s], fun i Q hi => ?_⟩
    have hlt := (List.getElem?_eq_some_iff.mp hi).1
    simp only [List.length_cons, List.length_nil] at hlt
    have : i = 0 := by omega
    subst this
    simp only [List.getElem?_cons_zero, Option.some.injEq] at hi
    subst hi
    refine ⟨fun j hj => ?_, b3, w⟩
    rw [b2 3 _ (by omega) (by omega)]
    exact a2.1 j hj
  refine LookR.back ?_ f29 ((a2.m (by omega) (by omega)).trans (b2.m (by omega) (by omega)))
  unfold searchA F_X6_look_b35
  by_cases q : wonB R P = true
  · rw [if_pos q, if_pos q]
    show LookR _ _ _ (F_X6_look_s41 _ _ _ _ _ _ _) _
    unfold F_X6_look_s41
    rw [if_neg (show ¬ nI 0 = (-1 : Int32) by decide)]
    exact m_look118 hr1 hK rfl (nI 0)
  · rw [if_neg q, if_neg q]
    exact m_look41 hb4 401 0 1 1000 FU _ L2 [P] (fun _ => 0) (by omega) (by omega) (FU_gt (by omega)) (by omega) (by omega) hr1 hK rfl (by simp; omega) (by omega) (fun i _ _ => rfl)
