/-! ===== the states stay as they must be ===== -/
theorem safeL_wf {R : Nat → Nat} (hR : RulesOk R) : ∀ (n : Nat) (P : Pos), WF R P → ∀ Q, Q ∈ safeL R n P → WF R Q
  | 0, _, _, Q, h => absurd h List.not_mem_nil
  | n + 1, P, w, Q, h => by
    change Q ∈ (match (List.range 8).find? (safeAt R P) with | none => [] | some f => playP R P f 8 1 :: safeL R n (playP R P f 8 1)) at h
    cases e : (List.range 8).find? (safeAt R P) with
    | none => rw [e] at h; exact absurd h List.not_mem_nil
    | some f =>
      rw [e] at h
      have hs := List.find?_some e
      unfold safeAt at hs
      rw [Bool.and_eq_true] at hs
      have wC := wf_play w hR (Nat.le_refl 1) (Or.inl rfl) hs.1
      rcases List.mem_cons.mp h with z | z
      · rw [z]; exact wC
      · exact safeL_wf hR n _ wC Q z
theorem ok_deck {A : AS} (hA : okA A) (v1 v2 : Int32) : okA (aDeck A v1 v2).2.2 := by
  unfold aDeck
  by_cases q : okDeck A.1 v1 v2 = true
  · rw [if_pos q]
    exact ⟨(okDeck_rules hA.1 q).1, hA.2⟩
  · rw [if_neg q]; exact hA
theorem ok_table {A : AS} (hA : okA A) (v1 v2 v3 v4 : Int32) : okA (aTable A v1 v2 v3 v4).2.2 := by
  unfold aTable
  by_cases q : okTable v1 v2 v3 v4 = true
  · rw [if_pos q]
    exact ⟨(okTable_rules hA.1 q).1, hA.2⟩
  · rw [if_neg q]; exact hA
theorem ok_stock {A : AS} (hA : okA A) (v1 v2 : Int32) (b : Bool) : okA (aStock A v1 v2 b).2.2 := by
  unfold aStock
  by_cases q : okStock A.1 v1 v2 = true
  · rw [if_pos q]
    exact ⟨(okStock_rules hA.1 q).1, hA.2⟩
  · rw [if_neg q]; exact hA
theorem ok_deal {A : AS} (hA : okA A) (v1 v2 : Int32) : okA (aDeal A v1 v2).2.2 := by
  unfold aDeal
  by_cases q : okDeal v1 v2 = true
  · rw [if_pos q]
    have q' := q
    unfold okDeal at q'
    rw [Bool.and_eq_true] at q'
    obtain ⟨e1, -, b1⟩ := inB_nV (by omega) (by omega) q'.1
    obtain ⟨e2, -, b2⟩ := inB_nV (by omega) (by omega) q'.2
    have hm : nV v1 < 2 := by omega
    have w := wf_dealP hA.1 hm (x := nV v2)
    refine ⟨hA.1, hA.1, Nat.le_refl 1, show 1 ≤ 201 by omega, fun P hP => ?_, rfl, hm, show nV v2 < 2147483648 by omega⟩
    rw [List.mem_singleton] at hP; rw [hP]; exact w
  · rw [if_neg q]; exact hA
theorem ok_move {A : AS} (hA : okA A) (v1 v2 v3 : Int32) : okA (aMove A v1 v2 v3).2.2 := by
  unfold aMove
  by_cases q : okArg v1 v2 v3 = true
  · rw [if_pos q]
    by_cases q2 : okDo A v1 v2 v3 = true
    · rw [if_pos q2]
      refine hA.push (playP_wf hA q q2) ?_
      unfold okDo at q2
      rw [Bool.and_eq_true, decide_eq_true_eq] at q2
      omega
    · rw [if_neg q2]; exact hA
  · rw [if_neg q]; exact hA
theorem ok_undo {A : AS} (hA : okA A) (v : Int32) : okA (aUndo A v).2.2 := by
  have hlen := hA.2.2.1
  have hlen2 := hA.2.2.2.1
  unfold aUndo
  by_cases q : inB v 1 200 = true
  · rw [if_pos q]
    have hb : backN A v ≤ A.2.2.1.length - 1 := by unfold backN; split <;> omega
    refine ⟨hA.1, hA.2.1, ?_, ?_, fun P hP => hA.2.2.2.2.1 P (List.mem_of_mem_take hP), ?_, hA.2.2.2.2.2.2⟩
    · show 1 ≤ (A.2.2.1.take _).length
      rw [List.length_take]; omega
    · show (A.2.2.1.take _).length ≤ 201
      rw [List.length_take]; omega
    · show (A.2.2.1.take _)[0]? = _
      rw [List.getElem?_take, if_pos (by omega)]; exact hA.2.2.2.2.2.1
  · rw [if_neg q]; exact hA
theorem ok_safe {A : AS} (hA : okA A) : okA (aSafe A).2.2 := by
  have hlen := hA.2.2.1
  have hlen2 := hA.2.2.2.1
  have hc : (safeA A).length ≤ 200 - (A.2.2.1.length - 1) := safeL_len _ _ _
  refine ⟨hA.1, hA.2.1, ?_, ?_, fun Q hQ => ?_, ?_, hA.2.2.2.2.2.2⟩
  · show 1 ≤ (A.2.2.1 ++ safeA A).length
    rw [List.length_append]; omega
  · show (A.2.2.1 ++ safeA A).length ≤ 201
    rw [List.length_append]; omega
  · rcases List.mem_append.mp hQ with z | z
    · exact hA.2.2.2.2.1 Q z
    · exact safeL_wf hA.2.1 _ _ hA.wf Q z
  · show (A.2.2.1 ++ safeA A)[0]? = _
    rw [List.getElem?_append_left (by omega)]; exact hA.2.2.2.2.2.1
/-! the answers of the calls that change something are not below 0 -/
def ansA (z : Nat × Int32 × AS) : Int32 := if z.1 = 0 then z.2.1 else -99999999
theorem nI_ne9 {k : Nat} (h : k < 2147483648) : nI k ≠ -99999999 := by
  intro e
  have h1 := congrArg Int32.toInt e
  rw [nI_toInt h] at h1
  have h2 : (-99999999 : Int32).toInt = -99999999 := by decide
  rw [h2] at h1
  omega
theorem an_deck {A : AS} (hA : okA A) (v1 v2 : Int32) (h : ansA (aDeck A v1 v2) = -99999999) : (aDeck A v1 v2).2.2 = A := by
  unfold aDeck at h ⊢
  by_cases q : okDeck A.1 v1 v2 = true
  · rw [if_pos q] at h
    obtain ⟨r, e1, e2⟩ := okDeck_rules hA.1 q
    unfold ansA at h
    rw [if_pos rfl] at h
    change v1 * v2 = -99999999 at h
    unfold okDeck at q
    simp only [Bool.and_eq_true] at q
    obtain ⟨e3, -, b3⟩ := inB_nV (by omega) (by omega) q.2.2.1
    rw [e3] at h
    exact absurd h (nI_ne9 (by omega))
  · rw [if_neg q]
theorem an_table {A : AS} (v1 v2 v3 v4 : Int32) (h : ansA (aTable A v1 v2 v3 v4) = -99999999) : (aTable A v1 v2 v3 v4).2.2 = A := by
  unfold aTable at h ⊢
  by_cases q : okTable v1 v2 v3 v4 = true
  · rw [if_pos q] at h
    exact absurd h (nI_ne9 (k := 0) (by omega))
  · rw [if_neg q]
theorem an_stock {A : AS} (v1 v2 : Int32) (b : Bool) (h : ansA (aStock A v1 v2 b) = -99999999) : (aStock A v1 v2 b).2.2 = A := by
  unfold aStock at h ⊢
  by_cases q : okStock A.1 v1 v2 = true
  · rw [if_pos q] at h
    exact absurd h (nI_ne9 (k := 0) (by omega))
  · rw [if_neg q]
theorem an_deal {A : AS} (hA : okA A) (v1 v2 : Int32) (h : ansA (aDeal A v1 v2) = -99999999) : (aDeal A v1 v2).2.2 = A := by
  unfold aDeal at h ⊢
  by_cases q : okDeal v1 v2 = true
  · rw [if_pos q] at h
    have hR := hA.1
    unfold RulesOk at hR
    have h : nI (A.1 0 * A.1 1) - nI (A.1 6) = -99999999 := h
    rw [pk_sub (by omega)] at h
    exact absurd h (nI_ne9 (by omega))
  · rw [if_neg q]
theorem an_move {A : AS} (hA : okA A) (v1 v2 v3 : Int32) (h : ansA (aMove A v1 v2 v3) = -99999999) : (aMove A v1 v2 v3).2.2 = A := by
  unfold aMove at h ⊢
  by_cases q : okArg v1 v2 v3 = true
  · rw [if_pos q] at h ⊢
    by_cases q2 : okDo A v1 v2 v3 = true
    · rw [if_pos q2] at h
      have hR := hA.2.1
      have hu := upN_le (playP_wf hA q q2) hR
      unfold RulesOk at hR
      exact absurd h (nI_ne9 (k := upN (afterMove A v1 v2 v3)) (by omega))
    · rw [if_neg q2]
  · rw [if_neg q]
theorem an_undo {A : AS} (hA : okA A) (v : Int32) (h : ansA (aUndo A v) = -99999999) : (aUndo A v).2.2 = A := by
  unfold aUndo at h ⊢
  by_cases q : inB v 1 200 = true
  · rw [if_pos q] at h
    have hlen := hA.2.2.2.1
    have hb : backN A v ≤ A.2.2.1.length - 1 := by unfold backN; split <;> omega
    exact absurd h (nI_ne9 (k := backN A v) (by omega))
  · rw [if_neg q]
theorem an_safe {A : AS} (h : (aSafe A).2.1 = -99999999) : (aSafe A).2.2 = A := by
  have hc : (safeA A).length ≤ 200 - (A.2.2.1.length - 1) := safeL_len _ _ _
  exact absurd h (nI_ne9 (k := (safeA A).length) (by omega))
