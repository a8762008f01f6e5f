/-! ===== the second reading: positions known ===== -/
def MK (R : Nat → Nat) (I : Nat → Nat → Int32) (L : Nat → Nat → Int64) (KP : List Pos) : Prop := I 0 29 = nI KP.length ∧ ∀ i P, KP[i]? = some P → (∀ j, j < 8 → L 3 (8 * i + j) = lN (keyL P j)) ∧ SK P (R 2) (fun j => L 4 (8 * i + j)) ∧ WF R P
theorem m_known29 {I : Nat → Nat → Int32} {L : Nat → Nat → Int64} {K i : Nat} (h29 : I 0 29 = nI K) (hK : K ≤ 401) (hi : i < K) (K17 : (Nat → Nat → Int64) → Int32 → Option (Int32 × (Nat → Nat → Int64))) :
    ∀ (j k n : Nat) (b : Bool), k + j = 8 → j < n → F_X6_isKnown_L29 I K17 n L (nI i) (bi b) (nI k) = F_X6_isKnown_b80 I K17 L (nI i) (bi (b && (List.range' k j).all (fun j => decide (L 4 (8 * i + j) = L 4 (8 * K + j))))) := by
  have e0 : ∀ x y : Int64, (lg_cmp x y = nI 0) ↔ x = y := fun x y => lg_cmp_eq x y
  intro j
  induction j with
  | zero =>
    intro k n b hk hn
    obtain ⟨n, rfl⟩ : ∃ q, n = q + 1 := ⟨n - 1, by omega⟩
    show F_X6_isKnown_s29 I K17 (F_X6_isKnown_L29 I K17 n) _ _ _ _ = _
    unfold F_X6_isKnown_s29
    rw [if_pos (nI_le (by omega) (by omega))]
    simp
  | succ j ih =>
    intro k n b hk hn
    obtain ⟨n, rfl⟩ : ∃ q, n = q + 1 := ⟨n - 1, by omega⟩
    show F_X6_isKnown_s29 I K17 (F_X6_isKnown_L29 I K17 n) _ _ _ _ = _
    unfold F_X6_isKnown_s29
    have e : (List.range' k (j + 1)).all (fun j => decide (L 4 (8 * i + j) = L 4 (8 * K + j))) = (decide (L 4 (8 * i + k) = L 4 (8 * K + k)) && (List.range' (k + 1) j).all (fun j => decide (L 4 (8 * i + j) = L 4 (8 * K + j)))) := rfl
    rw [if_neg (nI_ge (by omega) (by omega)), e]
    cases b with
    | false => rw [if_pos (show bi false = nI 0 from rfl)]; rfl
    | true =>
      have i0 := ih (k + 1) n false (by omega) (by omega)
      have i1 := ih (k + 1) n true (by omega) (by omega)
      rw [if_neg (by rw [bi_eq0]; decide), pk_mul, nI_add, rdA_n _ (by omega) (by omega), h29, pk_mul, nI_add, rdA_n _ (by omega) (by omega), nI_add]
      by_cases q : L 4 (8 * i + k) = L 4 (8 * K + k)
      · rw [if_pos ((e0 _ _).mpr q), decide_eq_true q, Bool.true_and]; exact i1
      · rw [if_neg (fun y => q ((e0 _ _).mp y)), decide_eq_false q, Bool.false_and]; exact i0
theorem m_known17 {R : Nat → Nat} (hR : RulesOk R) {I : Nat → Nat → Int32} {L : Nat → Nat → Int64} {KP : List Pos} {C : Pos} (wC : WF R C) (h : MK R I L KP) (hK : KP.length ≤ 401) (hC : SK C (R 2) (fun j => L 4 (8 * KP.length + j))) :
    ∀ (j k n : Nat), k + j = KP.length → j < n → F_X6_isKnown_L17 I n L (nI k) = some (bi ((KP.drop k).any (fun P => sameB P C)), L) := by
  intro j
  induction j with
  | zero =>
    intro k n hk hn
    obtain ⟨n, rfl⟩ : ∃ q, n = q + 1 := ⟨n - 1, by omega⟩
    show F_X6_isKnown_s17 I (F_X6_isKnown_L17 I n) _ _ = _
    unfold F_X6_isKnown_s17
    rw [h.1, if_pos (nI_le (by omega) (by omega)), zb0, List.drop_eq_nil_of_le (by omega)]; rfl
  | succ j ih =>
    intro k n hk hn
    obtain ⟨n, rfl⟩ : ∃ q, n = q + 1 := ⟨n - 1, by omega⟩
    have hlt : k < KP.length := by omega
    have hk2 : KP[k]? = some KP[k] := List.getElem?_eq_getElem hlt
    obtain ⟨-, hs, w⟩ := h.2 k _ hk2
    have hsame := SK_same hR w wC hs hC
    show F_X6_isKnown_s17 I (F_X6_isKnown_L17 I n) _ _ = _
    unfold F_X6_isKnown_s17
    rw [h.1, if_neg (nI_ge (by omega) (by omega)), show (nI 1 : Int32) = bi true from rfl, show (nI 0 : Int32) = nI 0 from rfl, m_known29 h.1 hK hlt (F_X6_isKnown_L17 I n) 8 0 FU true (by omega) (FU_gt (by omega))]
    have e : ((List.range' 0 8).all (fun j => decide (L 4 (8 * k + j) = L 4 (8 * KP.length + j)))) = sameB KP[k] C := by
      rw [Bool.eq_iff_iff, ← hsame, List.all_eq_true]
      constructor
      · intro y i hi
        have := y i (by rw [List.mem_range'_1]; omega)
        simpa using this
      · intro y i hi
        rw [List.mem_range'_1] at hi
        simpa using y i (by omega)
    rw [Bool.true_and, e, List.drop_eq_getElem_cons hlt, List.any_cons]
    unfold F_X6_isKnown_b80
    rw [bi_if]
    cases z : sameB KP[k] C with
    | true => rw [if_pos rfl, zb1]; rfl
    | false => rw [if_neg (by decide), nI_add, ih (k + 1) n (by omega) (by omega), Bool.false_or]
theorem SK.cong {P : Pos} {N : Nat} (hN : N ≤ 5) {f g : Nat → Int64} (h : SK P N f) (e : ∀ j, j < 8 → g j = f j) : SK P N g :=
  ⟨fun p hp => by have := rk_lt (P := P) hp; rw [e _ (by omega)]; exact h.1 p hp, fun i h1 h2 => by rw [e _ (by omega)]; exact h.2.1 i h1 h2, by rw [e _ (by omega)]; exact h.2.2.1, by rw [e _ (by omega)]; exact h.2.2.2.1, by rw [e _ (by omega)]; exact h.2.2.2.2⟩
theorem MK.sf {R : Nat → Nat} (hR : RulesOk R) {I : Nat → Nat → Int32} {L L2 : Nat → Nat → Int64} {KP : List Pos} (h : MK R I L KP) (hs : SF L L2 4 (8 * KP.length)) : MK R I L2 KP := by
  unfold RulesOk at hR
  refine ⟨h.1, fun i P hi => ?_⟩
  obtain ⟨a, b, c⟩ := h.2 i P hi
  have hlt : i < KP.length := (List.getElem?_eq_some_iff.mp hi).1
  exact ⟨fun j hj => by rw [hs 3 _ (by omega) (by omega)]; exact a j hj, b.cong (by omega) (fun j hj => hs 4 _ (by omega) (by omega)), c⟩
theorem m_isKnown {R : Nat → Nat} {I : Nat → Nat → Int32} {L : Nat → Nat → Int64} {KP : List Pos} {C : Pos} (hr : RR (I 1) R) (hC : MRep I L C) (wC : WF R C) (h : MK R I L KP) (hK : KP.length ≤ 401) :
    ∃ L2, F_X6_isKnown I L = some (bi (knownB KP C), L2) ∧ SF L L2 4 (8 * KP.length) ∧ SK C (R 2) (fun j => L2 4 (8 * KP.length + j)) := by
  unfold F_X6_isKnown
  rw [h.1, pk_mul]
  obtain ⟨L2, e1, e2, e3⟩ := m_sort (cc := 4) (nn := 3216) (o := 8 * KP.length) hr hC wC (by omega) (by omega) (by omega) (by omega)
  rw [e1, cal1_s]
  refine ⟨L2, ?_, e2, e3⟩
  have := m_known17 hr.2 wC (h.sf hr.2 e2) hK e3 KP.length 0 FU (by omega) (FU_gt (by omega))
  rw [List.drop_zero] at this
  exact this
theorem MK.push {R : Nat → Nat} (hR : RulesOk R) {I I2 : Nat → Nat → Int32} {L L2 : Nat → Nat → Int64} {KP : List Pos} {C : Pos} (h : MK R I L KP) (wC : WF R C) (hs : SI C L L2 3 (8 * KP.length) 8) (h4 : SK C (R 2) (fun j => L 4 (8 * KP.length + j))) (h29 : I2 0 29 = nI (KP.length + 1)) : MK R I2 L2 (KP ++ [C]) := by
  unfold RulesOk at hR
  refine ⟨by rw [h29]; simp, fun i P hi => ?_⟩
  rcases Nat.lt_or_ge i KP.length with z | z
  · rw [List.getElem?_append_left z] at hi
    obtain ⟨a, b, c⟩ := h.2 i P hi
    exact ⟨fun j hj => by rw [hs.2 3 _ (by omega)]; exact a j hj, b.cong (by omega) (fun j hj => hs.2 4 _ (by omega)), c⟩
  · rw [List.getElem?_append_right z] at hi
    have : i - KP.length = 0 := by
      have := (List.getElem?_eq_some_iff.mp hi).1
      simp only [List.length_cons, List.length_nil] at this; omega
    rw [this] at hi
    simp only [List.getElem?_cons_zero, Option.some.injEq] at hi
    subst hi
    have e : i = KP.length := by omega
    subst e
    exact ⟨hs.1, h4.cong (by omega) (fun j hj => hs.2 4 _ (by omega)), wC⟩
