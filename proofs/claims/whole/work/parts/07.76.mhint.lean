/-! ===== the second reading: hint ===== -/
def hintF (R : Nat → Nat) (P : Pos) (least : Int32) : List Nat → Int32
  | [] => -1
  | m :: r => if (searchA R 100 (playC R P m)).1 = least - nI 1 then nI m else hintF R P least r
def hintA (R : Nat → Nat) (P : Pos) : Int32 := if nI 1 ≤ (searchA R 100 P).1 then hintF R P (searchA R 100 P).1 (mvs R P) else -1
def aHint (A : AS) : Nat × Int32 × AS := (0, hintA A.2.1 (cur A.2.2.1), A)
theorem m_hint_L {R : Nat → Nat} {P : Pos} (w : WF R P) (least : Int32) : ∀ (j k n : Nat) (I : Nat → Nat → Int32) (L : Nat → Nat → Int64), k + j = (mvs R P).length → j < n → RR (I 1) R → MRep I L P → (∀ i, i < 8 → L 2 (0 + i) = lN (keyL P i)) →
    ∃ I' L', F_X6_hint_L38 n I L least (nI (mvs R P).length) (nI k) = some (hintF R P least ((mvs R P).drop k), I', L') ∧ MRep I' L' P ∧ FrM I I' ∧ FrLM L L' := by
  have hml := mvs_len R P
  intro j
  induction j with
  | zero =>
    intro k n I L hk hn hr h h2
    obtain ⟨n, rfl⟩ : ∃ q, n = q + 1 := ⟨n - 1, by omega⟩
    refine ⟨I, L, ?_, h, FrM.refl I, FrLM.refl L⟩
    show F_X6_hint_s38 (F_X6_hint_L38 n) _ _ _ _ _ = _
    unfold F_X6_hint_s38
    rw [if_pos (nI_le (by omega) (by omega)), List.drop_of_length_le (by omega)]; rfl
  | succ j ih =>
    intro k n I L hk hn hr h h2
    obtain ⟨n, rfl⟩ : ∃ q, n = q + 1 := ⟨n - 1, by omega⟩
    have hkl : k < (mvs R P).length := by omega
    obtain ⟨m, hm⟩ : ∃ m, (mvs R P)[k]? = some m := ⟨_, List.getElem?_eq_getElem hkl⟩
    have hmem := List.mem_of_getElem? hm
    have hsm := mvs_small hmem
    obtain ⟨f, t, n2, ec, hf, ht, hn1, hn16, h1, f8, hl⟩ := mem_mvs hmem
    have c1 : m / 1000 = f := by rw [ec]; unfold codeN; omega
    have c2 : m / 100 % 10 = t := by rw [ec]; unfold codeN; omega
    have c3 : m % 100 = n2 := by rw [ec]; unfold codeN; omega
    have ep : playC R P m = playP R P f t n2 := by unfold playC; rw [c1, c2, c3]
    have ef : F_X6_find I L (nI k) = some (nI m) := by
      rw [m_find h w hr, findR_at _ _ _ (by omega) (by omega) (by omega), Nat.sub_zero, hm]
    have ed : (mvs R P).drop k = m :: (mvs R P).drop (k + 1) := by
      rw [List.drop_eq_getElem_cons hkl, (List.getElem?_eq_some_iff.mp hm).2]
    obtain ⟨I1, L1, a1, a2, a3, a4⟩ := m_play h w hr ht hn1 hn16 h1 hl
    rw [← ep] at a2
    have wC : WF R (playC R P m) := by rw [ep]; exact wf_play w hr.2 hn1 h1 hl
    have hr1 : RR (I1 1) R := by rw [a3.1 1 (by omega)]; exact hr
    obtain ⟨I2, L2, b1, b2, b3, b4, -⟩ := m_look hr1 a2 wC (b := 100) (by omega) (by omega)
    have hr2 : RR (I2 1) R := by rw [b3.1 1 (by omega)]; exact hr1
    have hL2 : L2 2 = L 2 := by rw [b4.2, a4 2 (by omega)]
    obtain ⟨I3, L3, d1, d2, d3, d4⟩ := m_load (I := I2) (L := L2) (cc := 2) (nn := 8) (o := 0) (w.kok hr.2) (by omega) (by omega) (by omega) (fun i hi => by rw [hL2]; exact h2 i hi)
    have hr3 : RR (I3 1) R := by rw [d3.1 1 (by omega)]; exact hr2
    have fI : FrM I I3 := (a3.m.trans b3).trans d3.m
    have fL : FrLM L L3 := (a4.m.trans b4).trans d4.m
    show ∃ I' L', F_X6_hint_s38 (F_X6_hint_L38 n) _ _ _ _ _ = _ ∧ _
    unfold F_X6_hint_s38
    rw [if_neg (nI_ge hkl (by omega)), ef, cal1_s, nz_n _ (by omega) (by omega), nz_n _ (by omega) (by omega), nz_n _ (by omega) (by omega), nz_n _ (by omega) (by omega), show nI m - nI m / nI 100 * nI 100 = nI (m % 100) from pk_rem (by omega) (by omega) (by omega), pk_div (by omega) (by omega) (by omega), pk_div (by omega) (by omega) (by omega), pk_rem (by omega) (by omega) (by omega), c1, c2, c3, a1, cal2_s, b1, cal3_s, d1, cal2_s, ed]
    by_cases q : (searchA R 100 (playC R P m)).1 = least - nI 1
    · rw [if_pos q]
      refine ⟨I3, L3, ?_, d2, fI, fL⟩
      show _ = some ((if (searchA R 100 (playC R P m)).1 = least - nI 1 then nI m else hintF R P least ((mvs R P).drop (k + 1))), I3, L3)
      rw [if_pos q]
    · rw [if_neg q, nI_add]
      obtain ⟨I4, L4, e1, e2, e3, e4⟩ := ih (k + 1) n I3 L3 (by omega) (by omega) hr3 d2 (fun i hi => by rw [fL.2]; exact h2 i hi)
      refine ⟨I4, L4, ?_, e2, fI.trans e3, fL.trans e4⟩
      rw [e1]
      show _ = some ((if (searchA R 100 (playC R P m)).1 = least - nI 1 then nI m else hintF R P least ((mvs R P).drop (k + 1))), I4, L4)
      rw [if_neg q]
theorem FrLM.past {L L' : Nat → Nat → Int64} (h : FrLM L L') : L' 1 = L 1 := h.1
theorem M_hint {A : AS} {I : Nat → Nat → Int32} {L : Nat → Nat → Int64} (hA : okA A) (h : MSt A I L) : MStep (F_X6_hint I L) (aHint A) := by
  have h1 := h.th (nI 0)
  have w := hA.wf
  obtain ⟨I1, L1, a1, a2, a3, a4, -⟩ := m_look h1.2.1 h1.2.2.1 w (b := 100) (by omega) (by omega)
  have hr1 : RR (I1 1) A.2.1 := by rw [a3.1 1 (by omega)]; exact h1.2.1
  unfold F_X6_hint aHint hintA
  rw [bnd_s, a1, cal3_s]
  by_cases q : nI 1 ≤ (searchA A.2.1 100 (cur A.2.2.1)).1
  · rw [if_pos q, if_pos q]
    obtain ⟨L2, b1, b2⟩ := m_store (cc := 2) (nn := 8) (o := 0) a2 (w.kok hA.2.1) (by omega) (by omega) (by omega)
    have hm2 := a2.atL (L1 := L2) (funext fun j => b2.2 0 j (by omega))
    obtain ⟨I3, L3, c1, c2, c3, c4⟩ := m_hint_L w (searchA A.2.1 100 (cur A.2.2.1)).1 (mvs A.2.1 (cur A.2.2.1)).length 0 FU I1 L2 (by omega) (FU_gt (by have := mvs_len A.2.1 (cur A.2.2.1); omega)) hr1 hm2 (fun i hi => b2.1 i hi)
    rw [b1, cal1_s, m_find hm2 w hr1, cal1_s, find_len]
    rw [List.drop_zero] at c1
    refine ⟨I3, L3, c1, (a3.trans c3).th, h1.fr (a3.trans c3) ?_ c2⟩
    rw [c4.1]
    exact (funext fun j => b2.2 1 j (by omega)).trans a4.1
  · rw [if_neg q, if_neg q]
    exact ⟨I1, L1, rfl, a3.th, h1.fr a3 a4.1 a2⟩
