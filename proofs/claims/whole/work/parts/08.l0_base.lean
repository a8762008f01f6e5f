/-! ===== the law's world and its cases ===== -/
theorem TBL_V0 {own : String} {idx : Nat} {C : String} {y : MethodName} {by_ : ByteArray} {n : Nat} {ret : Option FieldType} (h1 : Cond.methodLink own idx y ∈ TBL) (h2 : Cond.instanceMethod y ∈ TBL) (h3 : Cond.selects C y y ∈ TBL) (h4 : Cond.initialized C ∈ TBL) (h5 : Cond.code y by_ n ret ∈ TBL) : GoodIn TBL (wsV own idx C y (Cond.code y by_ n ret :: TBL)) := by
  have h9 : ∀ w ∈ wsV own idx C y (Cond.code y by_ n ret :: TBL), w ∈ TBL := by
    intro w h
    unfold wsV at h
    simp only [List.mem_append, List.mem_cons, List.not_mem_nil, or_false] at h
    rcases h with (rfl | rfl | rfl | rfl) | rfl | h <;> assumption
  exact fun w h => ⟨h9 w h, good_of_word (TBL_good w (h9 w h))⟩
def WL (cI cJ : ClassId) (out : Nat) (f : Nat → Int64) (a : Nat → Nat) (gt go : Nat) (P : Nat → Int32) (rn : Nat → Int32) (r : Nat → Int32) (T : Nat → Nat → Int32) (S : Nat → Nat → Int64) (Q : Nat → Nat → Int32) (Tt : Nat → Nat → Int32) (To : Nat → Nat → Int32) (Ss : Nat → Nat → Int64) (Dd : Nat → Nat → Int32) (Dt : Nat → Nat → Int32) (m : Nat → Nat) (I : Nat → Nat → Int32) (L : Nat → Nat → Int64) : va_W := (out, eJ cJ 1 f) :: (WP cI cJ a gt go P rn r T S Q Tt To Ss Dd Dt ++ WM cI cJ m I L)
def LawSt (D : va_G) (cI cJ : ClassId) (s : State) (a m : Nat → Nat) (out : Nat) (Z : AS) (H : Heap) (locs : List Loc) : Prop :=
  ∃ gt go f P rn r T S Q Tt To Ss Dd Dt I L, okA Z ∧ CSt Z P rn r Dd T S ∧ MSt Z I L ∧ HS D (fun q : Nat => s.heap.size ≤ q) s.heap (WL cI cJ out f a gt go P rn r T S Q Tt To Ss Dd Dt m I L) H locs
def LCx (p : Program) (l : Launch) (s : State) (m : MethodId) (c : Code) (b L : Nat) (xs : Nat → Int32) (D : va_G) (cI cJ : ClassId) : Prop :=
  p.tables.exec = Jvm.exec ∧ c.code = code ∧ c.maxLocals = 7 ∧ s.vm.findClass RL = some m.cls ∧ (∀ w ∈ TBL, w.before #[Value.ref b] s = true) ∧ KN D [(cI, .int), (cJ, .long)] s ∧ EXW s ∧ EXZ (fun q : Nat => s.heap.size ≤ q) s s.heap ∧ va_X b L xs s s.heap ∧ b < s.heap.size ∧ L ≤ 2560 ∧ l.stackTraces = false
theorem hcode_0 {k : Nat} (h : hcode k = nI 0) : k = 0 := by
  unfold hcode at h
  by_cases h0 : k = 0
  · exact h0
  · rw [if_neg h0] at h
    by_cases h2 : k = 2
    · rw [if_pos h2] at h; exact absurd h (by decide)
    · rw [if_neg h2] at h; exact absurd h (by decide)
theorem th_deck (Z : AS) (v1 : Int32) (v2 : Int32) : (aDeck Z v1 v2).1 = 0 ∨ (aDeck Z v1 v2).1 = 1 := by
  unfold aDeck
  split
  · exact Or.inl rfl
  · exact Or.inr rfl
theorem hc_deck (Z : AS) (v1 : Int32) (v2 : Int32) : nI (aDeck Z v1 v2).1 = hcode (aDeck Z v1 v2).1 := by
  rcases th_deck Z v1 v2 with h | h <;> rw [h] <;> rfl
theorem th_table (Z : AS) (v1 : Int32) (v2 : Int32) (v3 : Int32) (v4 : Int32) : (aTable Z v1 v2 v3 v4).1 = 0 ∨ (aTable Z v1 v2 v3 v4).1 = 1 := by
  unfold aTable
  split
  · exact Or.inl rfl
  · exact Or.inr rfl
theorem hc_table (Z : AS) (v1 : Int32) (v2 : Int32) (v3 : Int32) (v4 : Int32) : nI (aTable Z v1 v2 v3 v4).1 = hcode (aTable Z v1 v2 v3 v4).1 := by
  rcases th_table Z v1 v2 v3 v4 with h | h <;> rw [h] <;> rfl
theorem th_stock (Z : AS) (v1 : Int32) (v2 : Int32) (v3 : Bool) : (aStock Z v1 v2 v3).1 = 0 ∨ (aStock Z v1 v2 v3).1 = 1 := by
  unfold aStock
  split
  · exact Or.inl rfl
  · exact Or.inr rfl
theorem hc_stock (Z : AS) (v1 : Int32) (v2 : Int32) (v3 : Bool) : nI (aStock Z v1 v2 v3).1 = hcode (aStock Z v1 v2 v3).1 := by
  rcases th_stock Z v1 v2 v3 with h | h <;> rw [h] <;> rfl
theorem th_deal (Z : AS) (v1 : Int32) (v2 : Int32) : (aDeal Z v1 v2).1 = 0 ∨ (aDeal Z v1 v2).1 = 1 := by
  unfold aDeal
  split
  · exact Or.inl rfl
  · exact Or.inr rfl
theorem hc_deal (Z : AS) (v1 : Int32) (v2 : Int32) : nI (aDeal Z v1 v2).1 = hcode (aDeal Z v1 v2).1 := by
  rcases th_deal Z v1 v2 with h | h <;> rw [h] <;> rfl
theorem th_numberOf (Z : AS) (v1 : Int32) : (aNumberOf Z v1).1 = 0 ∨ (aNumberOf Z v1).1 = 1 := by
  unfold aNumberOf
  split
  · exact Or.inl rfl
  · exact Or.inr rfl
theorem hc_numberOf (Z : AS) (v1 : Int32) : nI (aNumberOf Z v1).1 = hcode (aNumberOf Z v1).1 := by
  rcases th_numberOf Z v1 with h | h <;> rw [h] <;> rfl
theorem st_numberOf (Z : AS) (v1 : Int32) : (aNumberOf Z v1).2.2 = Z := by
  unfold aNumberOf
  split <;> rfl
theorem th_move (Z : AS) (v1 : Int32) (v2 : Int32) (v3 : Int32) : (aMove Z v1 v2 v3).1 = 0 ∨ (aMove Z v1 v2 v3).1 = 1 ∨ (aMove Z v1 v2 v3).1 = 2 := by
  unfold aMove
  split
  · split
    · exact Or.inl rfl
    · exact Or.inr (Or.inr rfl)
  · exact Or.inr (Or.inl rfl)
theorem hc_move (Z : AS) (v1 : Int32) (v2 : Int32) (v3 : Int32) : nI (aMove Z v1 v2 v3).1 = hcode (aMove Z v1 v2 v3).1 := by
  rcases th_move Z v1 v2 v3 with h | h | h <;> rw [h] <;> rfl
theorem th_undo (Z : AS) (v1 : Int32) : (aUndo Z v1).1 = 0 ∨ (aUndo Z v1).1 = 1 := by
  unfold aUndo
  split
  · exact Or.inl rfl
  · exact Or.inr rfl
theorem hc_undo (Z : AS) (v1 : Int32) : nI (aUndo Z v1).1 = hcode (aUndo Z v1).1 := by
  rcases th_undo Z v1 with h | h <;> rw [h] <;> rfl
theorem st_moves (Z : AS) : (aMoves Z).2.2 = Z := rfl
theorem th_moveAt (Z : AS) (v1 : Int32) : (if (aMoveAt Z v1).1 = 0 then 0 else 3) = 0 ∨ (if (aMoveAt Z v1).1 = 0 then 0 else 3) = 3 := by
  split
  · exact Or.inl rfl
  · exact Or.inr rfl
theorem hc_moveAt (Z : AS) (v1 : Int32) : nI (aMoveAt Z v1).1 = hcode (if (aMoveAt Z v1).1 = 0 then 0 else 3) := by
  unfold aMoveAt
  split <;> rfl
theorem st_moveAt (Z : AS) (v1 : Int32) : (aMoveAt Z v1).2.2 = Z := by
  unfold aMoveAt
  split <;> rfl
theorem th_card (Z : AS) (v1 : Int32) (v2 : Int32) : (aCard Z v1 v2).1 = 0 ∨ (aCard Z v1 v2).1 = 1 := by
  unfold aCard
  split
  · exact Or.inl rfl
  · exact Or.inr rfl
theorem hc_card (Z : AS) (v1 : Int32) (v2 : Int32) : nI (aCard Z v1 v2).1 = hcode (aCard Z v1 v2).1 := by
  rcases th_card Z v1 v2 with h | h <;> rw [h] <;> rfl
theorem st_card (Z : AS) (v1 : Int32) (v2 : Int32) : (aCard Z v1 v2).2.2 = Z := by
  unfold aCard
  split <;> rfl
theorem th_told (Z : AS) (v1 : Int32) : (aTold Z v1).1 = 0 ∨ (aTold Z v1).1 = 1 := by
  unfold aTold
  split
  · exact Or.inl rfl
  · exact Or.inr rfl
theorem hc_told (Z : AS) (v1 : Int32) : nI (aTold Z v1).1 = hcode (aTold Z v1).1 := by
  rcases th_told Z v1 with h | h <;> rw [h] <;> rfl
theorem st_told (Z : AS) (v1 : Int32) : (aTold Z v1).2.2 = Z := by
  unfold aTold
  split <;> rfl
theorem th_search (Z : AS) (v1 : Int32) : (aSearch Z v1).1 = 0 ∨ (aSearch Z v1).1 = 1 := by
  unfold aSearch
  split
  · exact Or.inl rfl
  · exact Or.inr rfl
theorem hc_search (Z : AS) (v1 : Int32) : nI (aSearch Z v1).1 = hcode (aSearch Z v1).1 := by
  rcases th_search Z v1 with h | h <;> rw [h] <;> rfl
theorem st_search (Z : AS) (v1 : Int32) : (aSearch Z v1).2.2 = Z := by
  unfold aSearch
  split <;> rfl
theorem th_known (Z : AS) (v1 : Int32) : (aKnown Z v1).1 = 0 ∨ (aKnown Z v1).1 = 1 := by
  unfold aKnown
  split
  · exact Or.inl rfl
  · exact Or.inr rfl
theorem hc_known (Z : AS) (v1 : Int32) : nI (aKnown Z v1).1 = hcode (aKnown Z v1).1 := by
  rcases th_known Z v1 with h | h <;> rw [h] <;> rfl
theorem st_known (Z : AS) (v1 : Int32) : (aKnown Z v1).2.2 = Z := by
  unfold aKnown
  split <;> rfl
theorem st_hint (Z : AS) : (aHint Z).2.2 = Z := rfl
theorem th_odds (Z : AS) (v1 : Int32) (v2 : Int32) (v3 : Int32) (v4 : Int32) : (aOdds Z v1 v2 v3 v4).1 = 0 ∨ (aOdds Z v1 v2 v3 v4).1 = 1 := by
  unfold aOdds
  split
  · exact Or.inl rfl
  · exact Or.inr rfl
theorem hc_odds (Z : AS) (v1 : Int32) (v2 : Int32) (v3 : Int32) (v4 : Int32) : nI (aOdds Z v1 v2 v3 v4).1 = hcode (aOdds Z v1 v2 v3 v4).1 := by
  rcases th_odds Z v1 v2 v3 v4 with h | h <;> rw [h] <;> rfl
theorem st_odds (Z : AS) (v1 : Int32) (v2 : Int32) (v3 : Int32) (v4 : Int32) : (aOdds Z v1 v2 v3 v4).2.2 = Z := by
  unfold aOdds
  split <;> rfl
