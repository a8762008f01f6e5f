/-! ===== the second reading: look is the search ===== -/
theorem expA_le2 {R : Nat → Nat} {b : Nat} {P : Pos} : ∀ (ms : List Nat) (KP : List Pos), (expA R b P ms KP).2 ≤ 2
  | [], _ => Nat.zero_le _
  | m :: r, KP => by
    rw [expA_cons]
    split
    · exact expA_le2 r _
    · dsimp only
      unfold learnA
      split
      · exact Nat.zero_le _
      · split
        · dsimp only; split <;> decide
        · exact Nat.le_refl _
theorem m_look118 {R : Nat → Nat} {I : Nat → Nat → Int32} {L : Nat → Nat → Int64} {KP : List Pos} {P0 : Pos} (hr : RR (I 1) R) (h : MK R I L KP) (h0 : KP[0]? = some P0) (v2 : Int32) :
    ∃ I' L', F_X6_look_b118 I L v2 = some (v2, I', L') ∧ MRep I' L' P0 ∧ FrM I I' ∧ FrLM L L' ∧ I' 0 29 = nI KP.length := by
  obtain ⟨a, -, w⟩ := h.2 0 P0 h0
  obtain ⟨I', L', e1, e2, e3, e4⟩ := m_load (I := I) (cc := 3) (nn := 3216) (o := 0) (w.kok hr.2) (by omega) (by omega) (by omega) (fun i hi => by have := a i hi; rwa [Nat.mul_zero] at this)
  unfold F_X6_look_b118
  rw [e1, cal2_s]
  exact ⟨I', L', rfl, e2, e3.m, e4.m, by rw [e3.2 29 (by omega) (by omega) (by omega)]; exact h.1⟩
/-- what look comes to: what it tells, the position back in its place, and how many were known -/
def LookR (I : Nat → Nat → Int32) (L : Nat → Nat → Int64) (P0 : Pos) (x : Option (Int32 × (Nat → Nat → Int32) × (Nat → Nat → Int64))) (z : Int32 × List Pos) : Prop :=
  ∃ I' L', x = some (z.1, I', L') ∧ MRep I' L' P0 ∧ FrM I I' ∧ FrLM L L' ∧ I' 0 29 = nI z.2.length
theorem LookR.back {I I1 : Nat → Nat → Int32} {L L1 : Nat → Nat → Int64} {P0 : Pos} {x : Option (Int32 × (Nat → Nat → Int32) × (Nat → Nat → Int64))} {z : Int32 × List Pos} (h : LookR I1 L1 P0 x z) (hI : FrM I I1) (hL : FrLM L L1) : LookR I L P0 x z := by
  obtain ⟨I', L', a, b, c, d, e⟩ := h
  exact ⟨I', L', a, b, hI.trans c, hL.trans d, e⟩
theorem m_look63 {R : Nat → Nat} {b lv e n41 : Nat} {P0 : Pos} (hb4 : b ≤ 400) (hlv : 1 ≤ lv) (hlv2 : lv ≤ 1000)
    (hA : ∀ (n : Nat) (I : Nat → Nat → Int32) (L : Nat → Nat → Int64) (KP : List Pos) (ST : Nat → Nat), 401 - e < n → RR (I 1) R → MK R I L KP → KP[0]? = some P0 → KP.length ≤ b → e ≤ KP.length → (∀ i, e ≤ i → i < KP.length → ST i = lv) → LookR I L P0 (F_X6_look_L41 (n41 + 1) I L (nI b) (-1) (nI e) (nI (lv + 1))) (bfsA R b n e KP ST)) :
    ∀ (j k n m : Nat) (I : Nat → Nat → Int32) (L : Nat → Nat → Int64) (KP : List Pos) (ST : Nat → Nat), k + j = e → 401 - k < n → j + 1 < m → RR (I 1) R → MK R I L KP → KP[0]? = some P0 → KP.length ≤ b → e ≤ KP.length → (∀ i, k ≤ i → i < e → ST i = lv - 1) → (∀ i, e ≤ i → i < KP.length → ST i = lv) →
    LookR I L P0 (F_X6_look_L63 (F_X6_look_L41 (n41 + 1)) m I L (nI b) (nI k) (nI lv) (nI e) (nI 0)) (bfsA R b n k KP ST) := by
  intro j
  induction j with
  | zero =>
    intro k n m I L KP ST hk hn hm hr h h0 hb he h1 h2
    obtain ⟨m, rfl⟩ : ∃ q, m = q + 1 := ⟨m - 1, by omega⟩
    have : k = e := by omega
    subst this
    show LookR I L P0 (F_X6_look_s63 _ _ _ _ _ _ _ _ _) _
    unfold F_X6_look_s63 F_X6_look_b88
    rw [if_pos (nI_le (by omega) (by omega)), if_neg (show ¬ nI 0 = nI 1 by decide), if_neg (show ¬ nI 0 = nI 2 by decide), nI_add]
    exact hA n I L KP ST hn hr h h0 hb he h2
  | succ j ih =>
    intro k n m I L KP ST hk hn hm hr h h0 hb he h1 h2
    obtain ⟨m, rfl⟩ : ∃ q, m = q + 2 := ⟨m - 2, by omega⟩
    obtain ⟨n, rfl⟩ : ∃ q, n = q + 1 := ⟨n - 1, by omega⟩
    have hlt : k < KP.length := by omega
    have hkk : KP[k]? = some KP[k] := List.getElem?_eq_getElem hlt
    obtain ⟨I1, L1, a1, a2, a3, a4, a5, ⟨X, hX⟩, a7⟩ := m_goOn hr h hkk hb hb4
    have h01 : (expA R b KP[k] (mvs R KP[k]) KP).1[0]? = some P0 := by rw [hX, List.getElem?_append_left (by omega)]; exact h0
    have hr1 : RR (I1 1) R := by rw [a4.1 1 (by omega)]; exact hr
    have hstk : ST k = lv - 1 := h1 k (by omega) (by omega)
    have hlen : KP.length ≤ (expA R b KP[k] (mvs R KP[k]) KP).1.length := by rw [hX, List.length_append]; omega
    have ebf : bfsA R b (n + 1) k KP ST = (if (expA R b KP[k] (mvs R KP[k]) KP).2 = 1 then (nI (ST k + 1), (expA R b KP[k] (mvs R KP[k]) KP).1)
      else if (expA R b KP[k] (mvs R KP[k]) KP).2 = 2 then (-2, (expA R b KP[k] (mvs R KP[k]) KP).1)
      else bfsA R b n (k + 1) (expA R b KP[k] (mvs R KP[k]) KP).1 (fun i => if i < KP.length then ST i else ST k + 1)) := by
      show (match KP[k]? with | none => _ | some P => _) = _
      rw [hkk]
    have hle2 := expA_le2 (R := R) (b := b) (P := KP[k]) (mvs R KP[k]) KP
    rw [ebf]
    show LookR I L P0 (F_X6_look_s63 _ (F_X6_look_L63 _ (m + 1)) _ _ _ _ _ _ _) _
    unfold F_X6_look_s63
    rw [if_neg (nI_ge (by omega) (by omega)), if_pos rfl, a1, cal3_s, nI_add]
    generalize expA R b KP[k] (mvs R KP[k]) KP = Z at *
    refine LookR.back ?_ a4 a5
    have stop : ∀ r v, (r = 1 ∨ r = 2) → v = (if r = 1 then nI lv else (-2)) → LookR I1 L1 P0 (F_X6_look_L63 (F_X6_look_L41 (n41 + 1)) (m + 1) I1 L1 (nI b) (nI (k + 1)) (nI lv) (nI e) (nI r)) (v, Z.1) := by
      intro r v hr12 hv
      have e88 : F_X6_look_L63 (F_X6_look_L41 (n41 + 1)) (m + 1) I1 L1 (nI b) (nI (k + 1)) (nI lv) (nI e) (nI r) = F_X6_look_b88 (F_X6_look_L41 (n41 + 1)) I1 L1 (nI b) (nI (k + 1)) (nI lv) (nI r) := by
        show F_X6_look_s63 _ (F_X6_look_L63 _ m) _ _ _ _ _ _ _ = _
        unfold F_X6_look_s63
        rw [if_neg (show ¬ nI r = nI 0 by rw [nI_eq (by omega) (by omega)]; omega)]
        split <;> rfl
      have e41 : F_X6_look_b88 (F_X6_look_L41 (n41 + 1)) I1 L1 (nI b) (nI (k + 1)) (nI lv) (nI r) = F_X6_look_b118 I1 L1 v := by
        unfold F_X6_look_b88
        rcases hr12 with y | y
        · subst y
          rw [if_pos rfl] at hv
          subst hv
          rw [if_pos rfl]
          show F_X6_look_s41 _ _ _ _ _ _ _ = _
          unfold F_X6_look_s41
          rw [if_neg (show ¬ nI lv = -1 by rw [nI_negone (by omega)]; exact id)]
        · subst y
          rw [if_neg (by decide)] at hv
          subst hv
          rw [if_neg (show ¬ nI 2 = nI 1 by decide), if_pos rfl]
          show F_X6_look_s41 _ _ _ _ _ _ _ = _
          unfold F_X6_look_s41
          rw [if_neg (show ¬ (-2 : Int32) = -1 by decide)]
      rw [e88, e41]
      exact m_look118 hr1 a3 h01 v
    by_cases z1 : Z.2 = 1
    · rw [if_pos z1, z1, hstk, show lv - 1 + 1 = lv by omega]
      exact stop 1 _ (Or.inl rfl) (by rw [if_pos rfl])
    · by_cases z2 : Z.2 = 2
      · rw [if_neg z1, if_pos z2, z2]
        exact stop 2 _ (Or.inr rfl) (by rw [if_neg (by decide)])
      · have z0 : Z.2 = 0 := by omega
        rw [if_neg z1, if_neg z2, z0]
        refine ih (k + 1) n (m + 1) I1 L1 Z.1 _ (by omega) (by omega) (by omega) hr1 a3 h01 a7 (by omega) (fun i hi1 hi2 => ?_) (fun i hi1 hi2 => ?_)
        · rw [if_pos (by omega)]; exact h1 i (by omega) hi2
        · by_cases y : i < KP.length
          · rw [if_pos y]; exact h2 i hi1 y
          · rw [if_neg y, hstk]; omega
