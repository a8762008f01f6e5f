/-! ===== the second reading: push, pop, take ===== -/
theorem clr4 {a c k : Nat} (ha : a < 2 ^ (4 * k)) (hc : c < 16) (hk : k < 16) : (2 ^ (4 * k) * c + a) &&& ((2 ^ (4 * k) * 15 + 0) ^^^ (2 ^ 64 - 1)) = a := by
  apply Nat.eq_of_testBit_eq
  intro i
  rw [Nat.testBit_and, Nat.testBit_xor, Nat.testBit_two_pow_mul_add _ ha, Nat.testBit_two_pow_mul_add _ (Nat.two_pow_pos _), Nat.testBit_two_pow_sub_one]
  rcases Nat.lt_or_ge i (4 * k) with q | q
  · rw [if_pos q, if_pos q, decide_eq_true (show i < 64 by omega)]; simp
  · rw [if_neg (by omega), if_neg (by omega)]
    have h1 : a.testBit i = false := Nat.testBit_lt_two_pow (Nat.lt_of_lt_of_le ha (Nat.pow_le_pow_right (by omega) q))
    rw [h1]
    rcases Nat.lt_or_ge (i - 4 * k) 4 with z | z
    · rw [decide_eq_true (show i < 64 by omega)]
      have : (15 : Nat).testBit (i - 4 * k) = true := by
        have : ∀ j : Fin 4, (15 : Nat).testBit j.val = true := by decide
        exact this ⟨_, z⟩
      rw [this]; simp
    · have : c.testBit (i - 4 * k) = false := Nat.testBit_lt_two_pow (Nat.lt_of_lt_of_le (show c < 2 ^ 4 by omega) (Nat.pow_le_pow_right (by omega) z))
      rw [this]; rfl
theorem clr4L {a c k : Nat} (ha : a < 16 ^ k) (hc : c < 16) (hk : k < 16) : lN (a + 16 ^ k * c) &&& ((lN 15 <<< ((nI 4 * nI k).toInt64 &&& 63)) ^^^ (-1)) = lN a := by
  have h := clr4 (a := a) (c := c) (k := k) (by rw [pow16]; exact ha) hc hk
  rw [Nat.add_zero] at h
  rw [pk_mul, wb_shl 15 (by omega), show (-1 : Int64) = lN (2 ^ 64 - 1) by decide, fb_xorL, fb_andL, Nat.mul_comm 15, ← pow16, Nat.add_comm a, h]
theorem m_push {I : Nat → Nat → Int32} {L : Nat → Nat → Int64} {p c : Nat} {l : List Nat} (hp : p < 5) (hL : L 0 p = lN (pkT l)) (hI : I 3 p = nI l.length) (hl : l.length < 16) (h16 : ∀ d, d ∈ l → d < 16) (hc : c < 16) :
    F_X6_push I L (nI p) (nI c) = some (st2 I 3 p (nI (l.length + 1)), stJ L 0 p (lN (pkT (c :: l)))) := by
  unfold F_X6_push
  have e : lN (pkT l) ||| ((nI c).toInt64 <<< ((nI 4 * nI l.length).toInt64 &&& 63)) = lN (pkT (c :: l)) := by
    have h1 := pkT_lt h16
    rw [nI_l (by omega), pk_mul, wb_shl c (by omega), fb_orL, Nat.or_comm, Nat.mul_comm, ← Nat.two_pow_add_eq_or_of_lt (by rw [pow16]; exact h1), pow16, Nat.add_comm]; rfl
  rw [rdA_n _ hp (by omega), hL, rdA_n _ hp (by omega), hI, e, wrJ_n _ hp (by omega), rdA_n _ hp (by omega), hI, nI_add, wrA_n _ hp (by omega)]
theorem m_cardAt' {I : Nat → Nat → Int32} {L : Nat → Nat → Int64} {p i : Nat} {l : List Nat} (hp : p < 5) (hL : L 0 p = lN (pkT l)) (hl : l.length ≤ 16) (h16 : ∀ d, d ∈ l → d < 16) (hi : i < l.length) : F_X6_cardAt I L (nI p) (nI i) = some (nI (l.getD (l.length - 1 - i) 0)) := by
  unfold F_X6_cardAt
  rw [rdA_n _ hp (by omega), hL, shr_card (pkT_lt64 h16 hl) (by omega), pkT_at h16 hi]
theorem m_pop {I : Nat → Nat → Int32} {L : Nat → Nat → Int64} {p c h : Nat} {l : List Nat} (hp : p < 5) (hL : L 0 p = lN (pkT (c :: l))) (hI : I 3 p = nI (l.length + 1)) (hH : I 4 p = nI h) (hh : h < 16) (hl : l.length < 16) (h16 : ∀ d, d ∈ c :: l → d < 16) :
    ∃ I', F_X6_pop I L (nI p) = some (nI c, I', stJ L 0 p (lN (pkT l))) ∧ I' 3 p = nI l.length ∧ I' 4 p = nI (if 0 < l.length ∧ l.length ≤ h then l.length - 1 else h) ∧ ∀ a j, (a = 3 ∨ a = 4) ∧ j = p ∨ I' a j = I a j := by
  have hd : ∀ d, d ∈ l → d < 16 := fun d hd => h16 d (List.mem_cons_of_mem _ hd)
  have e3 : st2 I 3 p (nI l.length) 3 p = nI l.length := by simp [st2_s]
  have e4 : st2 I 3 p (nI l.length) 4 p = nI h := by simp [st2_s, hH]
  have ec : F_X6_cardAt (st2 I 3 p (nI l.length)) L (nI p) (nI l.length) = some (nI c) := by
    rw [m_cardAt' hp hL (by simp; omega) h16 (by simp)]; simp
  unfold F_X6_pop F_X6_pop_b87 F_X6_pop_b93
  rw [rdA_n _ hp (by omega), hI, pk_sub (by omega), Nat.add_sub_cancel, wrA_n _ hp (by omega), rdA_n _ hp (by omega), e3, ec, cal1_s, rdA_n _ hp (by omega), hL, rdA_n _ hp (by omega), e3, show pkT (c :: l) = pkT l + 16 ^ l.length * c from rfl, clr4L (pkT_lt hd) (h16 c (by simp)) hl, wrJ_n _ hp (by omega), rdA_n _ hp (by omega), e3]
  have fin : ∀ z, ∃ I', some (nI c, st2 (st2 I 3 p (nI l.length)) 4 p (nI z), stJ L 0 p (lN (pkT l))) = some (nI c, I', stJ L 0 p (lN (pkT l))) ∧ I' 3 p = nI l.length ∧ I' 4 p = nI z ∧ ∀ a j, (a = 3 ∨ a = 4) ∧ j = p ∨ I' a j = I a j := by
    intro z
    refine ⟨_, rfl, ?_, ?_, ?_⟩
    · simp [st2_s]
    · simp [st2_s]
    · intro a j
      by_cases q : (a = 3 ∨ a = 4) ∧ j = p
      · exact Or.inl q
      · right
        simp only [st2_s]
        rw [if_neg (fun y => q ⟨Or.inr y.1, y.2⟩), if_neg (fun y => q ⟨Or.inl y.1, y.2⟩)]
  by_cases z : l.length = 0
  · rw [if_pos (nI_le (by omega) (by omega)), rdA_n _ hp (by omega), e4, wrA_n _ hp (by omega), if_neg (by omega)]
    exact fin h
  · rw [if_neg (nI_ge (by omega) (by omega)), rdA_n _ hp (by omega), rdA_n _ hp (by omega), e4, e3]
    by_cases z2 : h < l.length
    · rw [if_pos (nI_lt z2 (by omega)), rdA_n _ hp (by omega), e4, wrA_n _ hp (by omega), if_neg (by omega)]
      exact fin h
    · rw [if_neg (nI_nlt (by omega) (by omega)), rdA_n _ hp (by omega), e3, pk_sub (by omega), wrA_n _ hp (by omega), if_pos (by omega)]
      exact fin _
/-- what a move of the second reading leaves alone -/
def FrI (I I' : Nat → Nat → Int32) : Prop := (∀ a, 10 ≤ a ∨ a = 1 ∨ a = 2 → I' a = I a) ∧ ∀ j, j ≠ 21 → j ≠ 23 → j ≠ 24 → I' 0 j = I 0 j
def FrL (L L' : Nat → Nat → Int64) : Prop := ∀ k, k ≠ 0 → L' k = L k
theorem FrI.refl (I : Nat → Nat → Int32) : FrI I I := ⟨fun _ _ => rfl, fun _ _ _ _ => rfl⟩
theorem FrI.trans {I I' I'' : Nat → Nat → Int32} (h : FrI I I') (h2 : FrI I' I'') : FrI I I'' := ⟨fun a ha => (h2.1 a ha).trans (h.1 a ha), fun j a b c => (h2.2 j a b c).trans (h.2 j a b c)⟩
theorem FrL.refl (L : Nat → Nat → Int64) : FrL L L := fun _ _ => rfl
theorem FrL.trans {I I' I'' : Nat → Nat → Int64} (h : FrL I I') (h2 : FrL I' I'') : FrL I I'' := fun a ha => (h2 a ha).trans (h a ha)
theorem FrL.stJ {L : Nat → Nat → Int64} {p : Nat} {x : Int64} : FrL L (stJ L 0 p x) := fun k hk => by funext j; rw [stJ_s, if_neg (fun y => hk y.1)]
theorem FrI.st {I : Nat → Nat → Int32} {a p : Nat} {x : Int32} (ha : 3 ≤ a) (ha2 : a < 10) : FrI I (st2 I a p x) := ⟨fun b hb => by funext j; rw [st2_s, if_neg (by omega)], fun j _ _ _ => by rw [st2_s, if_neg (by omega)]⟩
theorem FrI.st0 {I : Nat → Nat → Int32} {p : Nat} {x : Int32} (ha : p = 21 ∨ p = 23 ∨ p = 24) : FrI I (st2 I 0 p x) := ⟨fun b hb => by funext j; rw [st2_s, if_neg (by omega)], fun j _ _ _ => by rw [st2_s, if_neg (by omega)]⟩
/-- k cards taken from a place -/
def takeP (P : Pos) (f k : Nat) : Pos := (fun p => if p = f then (P.1 f).drop k else P.1 p, fun p => if p = f then (if 0 < (P.1 f).length - k ∧ (P.1 f).length - k ≤ P.2.1 f then (P.1 f).length - k - 1 else P.2.1 f) else P.2.1 p, P.2.2.1, P.2.2.2)
theorem m_take {I : Nat → Nat → Int32} {L : Nat → Nat → Int64} {P : Pos} (ho : PosOk P) {f k : Nat} (hf : f < 8) (hk : k < (P.1 f).length) (hh : P.2.1 f + (k + 1) ≤ (P.1 f).length) (hc5 : f = 5 ∨ f = 6 → (P.1 f).length ≤ 1) (h7 : f = 7 → (P.1 7).length ≤ 8) (h : MRep I L (takeP P f k)) :
    ∃ I' L', F_X6_take I L (nI f) = some (nI ((P.1 f).getD k 0), I', L') ∧ MRep I' L' (takeP P f (k + 1)) ∧ FrI I I' ∧ FrL L L' ∧ I' 9 = I 9 := by
  have hl := ho.len f
  have hd : (P.1 f).drop k = (P.1 f).getD k 0 :: (P.1 f).drop (k + 1) := by
    rw [List.drop_eq_getElem_cons hk, List.getD_eq_getElem?_getD, List.getElem?_eq_getElem hk]; rfl
  have hlen : ((P.1 f).drop (k + 1)).length = (P.1 f).length - (k + 1) := by simp
  have hlenk : ((P.1 f).drop k).length = (P.1 f).length - k := by simp
  unfold F_X6_take
  rcases Nat.lt_or_ge f 5 with q | q
  · rw [if_neg (nI_ge q (by omega))]
    obtain ⟨b1, b2, b3⟩ := h.1 f q
    have ef : (takeP P f k).1 f = (P.1 f).drop k := by simp [takeP]
    have eh : (takeP P f k).2.1 f = P.2.1 f := by show (if f = f then _ else _) = _; rw [if_pos rfl, if_neg (by omega)]
    rw [ef] at b1 b2
    rw [eh] at b3
    rw [hd] at b1 b2
    obtain ⟨I', e1, e2, e3, e4⟩ := m_pop (h := P.2.1 f) q b1 (by rw [b2]; rfl) b3 (by omega) (by rw [hlen]; omega) (fun d hd2 => ho.1 f d (by rw [← hd] at hd2; exact List.mem_of_mem_drop hd2))
    rw [e1, cal3_s]
    refine ⟨I', _, rfl, ?_, ?_, FrL.stJ, ?_⟩
    · have g : ∀ a j, ¬ ((a = 3 ∨ a = 4) ∧ j = f) → I' a j = I a j := fun a j hn => (e4 a j).resolve_left hn
      have gp : ∀ p, p ≠ f → (takeP P f (k + 1)).1 p = (takeP P f k).1 p := fun p hp => by show (if p = f then _ else _) = (if p = f then _ else _); rw [if_neg hp, if_neg hp]
      have gh : ∀ p, p ≠ f → (takeP P f (k + 1)).2.1 p = (takeP P f k).2.1 p := fun p hp => by show (if p = f then _ else _) = (if p = f then _ else _); rw [if_neg hp, if_neg hp]
      refine ⟨fun p hp => ?_, fun j hj => ?_, fun s hs => ?_, ⟨?_, fun i hi => ?_⟩, ⟨?_, fun i hi => ?_⟩, ?_⟩
      · by_cases z : p = f
        · subst z
          have ef2 : (takeP P p (k + 1)).1 p = (P.1 p).drop (k + 1) := by simp [takeP]
          rw [ef2, e2, e3, stJ_s, if_pos ⟨rfl, rfl⟩]
          refine ⟨rfl, rfl, ?_⟩
          show _ = nI (if p = p then _ else _)
          rw [if_pos rfl, hlen]
        · rw [stJ_s, if_neg (fun y => z y.2), g 3 p (by omega), g 4 p (by omega), gp p z, gh p z]; exact h.1 p hp
      · rw [g 5 j (by omega), gp _ (by omega)]; exact h.2.1 j hj
      · rw [g 6 s (by omega)]; exact h.2.2.1 s hs
      · rw [g 0 21 (by omega), gp _ (by omega)]; exact h.2.2.2.1.1
      · rw [gp 7 (by omega)] at hi ⊢; rw [g 7 i (by omega)]; exact h.2.2.2.1.2 i hi
      · rw [g 0 23 (by omega), gp _ (by omega)]; exact h.2.2.2.2.1.1
      · rw [gp 9 (by omega)] at hi ⊢; rw [g 8 i (by omega)]; exact h.2.2.2.2.1.2 i hi
      · rw [g 0 24 (by omega)]; exact h.2.2.2.2.2
    · exact ⟨fun a ha => by funext j; exact (e4 a j).resolve_left (by omega), fun j _ _ _ => (e4 0 j).resolve_left (by omega)⟩
    · funext j; exact (e4 9 j).resolve_left (by omega)
  · rw [if_pos (nI_le q (by omega))]
    have gp : ∀ p, p ≠ f → (takeP P f (k + 1)).1 p = (takeP P f k).1 p := fun p hp => by show (if p = f then _ else _) = (if p = f then _ else _); rw [if_neg hp, if_neg hp]
    have gh : ∀ p, p ≠ f → (takeP P f (k + 1)).2.1 p = (takeP P f k).2.1 p := fun p hp => by show (if p = f then _ else _) = (if p = f then _ else _); rw [if_neg hp, if_neg hp]
    have ef : (takeP P f k).1 f = (P.1 f).drop k := by simp [takeP]
    have ef2 : (takeP P f (k + 1)).1 f = (P.1 f).drop (k + 1) := by simp [takeP]
    by_cases f7 : f = 7
    · subst f7
      have h7 := h7 rfl
      obtain ⟨b1, b2⟩ := h.2.2.2.1
      rw [ef, hlenk] at b1 b2
      have bk := b2 ((P.1 7).length - (k + 1)) (by omega)
      rw [show (P.1 7).length - k - 1 - ((P.1 7).length - (k + 1)) = 0 by omega, hd, List.getD_cons_zero] at bk
      have e21 : st2 I 0 21 (nI ((P.1 7).length - (k + 1))) 0 21 = nI ((P.1 7).length - (k + 1)) := by simp [st2_s]
      have e7 : st2 I 0 21 (nI ((P.1 7).length - (k + 1))) 7 ((P.1 7).length - (k + 1)) = nI ((P.1 7).getD k 0) := by rw [st2_s, if_neg (by omega), bk]
      rw [if_pos (nI_le (by omega) (by omega)), bnd_s, b1, pk_sub (by omega), show (P.1 7).length - k - 1 = (P.1 7).length - (k + 1) by omega, e21, rdA_n _ (by omega) (by omega), e7]
      refine ⟨_, _, rfl, ?_, FrI.st0 (Or.inl rfl), FrL.refl L, by funext j; rw [st2_s, if_neg (by omega)]⟩
      refine ⟨fun p hp => ?_, fun j hj => ?_, fun s hs => ?_, ⟨?_, fun i hi => ?_⟩, ⟨?_, fun i hi => ?_⟩, ?_⟩
      · rw [st2_s, st2_s, if_neg (by omega), if_neg (by omega), gp p (by omega), gh p (by omega)]; exact h.1 p hp
      · rw [st2_s, if_neg (by omega), gp _ (by omega)]; exact h.2.1 j hj
      · rw [st2_s, if_neg (by omega)]; exact h.2.2.1 s hs
      · rw [e21, ef2, hlen]
      · rw [ef2, hlen] at hi
        rw [ef2, hlen, st2_s, if_neg (by omega), b2 i (by omega), hd]
        rw [show (P.1 7).length - k - 1 - i = ((P.1 7).length - (k + 1) - 1 - i) + 1 by omega]; rfl
      · rw [st2_s, if_neg (by omega), gp _ (by omega)]; exact h.2.2.2.2.1.1
      · rw [gp 9 (by omega)] at hi ⊢; rw [st2_s, if_neg (by omega)]; exact h.2.2.2.2.1.2 i hi
      · rw [st2_s, if_neg (by omega)]; exact h.2.2.2.2.2
    · have hc5 := hc5 (by omega)
      have hk0 : k = 0 := by omega
      subst hk0
      have b := h.2.1 (f - 5) (by omega)
      rw [show 5 + (f - 5) = f by omega, ef, hd] at b
      rw [if_neg (nI_ge (by omega) (by omega)), pk_sub q, rdA_n _ (by omega) (by omega), b, wrA_n _ (by omega) (by omega)]
      refine ⟨_, _, rfl, ?_, FrI.st (by omega) (by omega), FrL.refl L, by funext j; rw [st2_s, if_neg (by omega)]⟩
      refine ⟨fun p hp => ?_, fun j hj => ?_, fun s hs => ?_, ⟨?_, fun i hi => ?_⟩, ⟨?_, fun i hi => ?_⟩, ?_⟩
      · rw [st2_s, st2_s, if_neg (by omega), if_neg (by omega), gp p (by omega), gh p (by omega)]; exact h.1 p hp
      · by_cases z : j = f - 5
        · rw [st2_s, if_pos ⟨rfl, z⟩, z, show 5 + (f - 5) = f by omega, ef2, List.drop_eq_nil_of_le (by omega)]; rfl
        · rw [st2_s, if_neg (by omega), gp _ (by omega)]; exact h.2.1 j hj
      · rw [st2_s, if_neg (by omega)]; exact h.2.2.1 s hs
      · rw [st2_s, if_neg (by omega), gp _ (by omega)]; exact h.2.2.2.1.1
      · rw [gp 7 (by omega)] at hi ⊢; rw [st2_s, if_neg (by omega)]; exact h.2.2.2.1.2 i hi
      · rw [st2_s, if_neg (by omega), gp _ (by omega)]; exact h.2.2.2.2.1.1
      · rw [gp 9 (by omega)] at hi ⊢; rw [st2_s, if_neg (by omega)]; exact h.2.2.2.2.1.2 i hi
      · rw [st2_s, if_neg (by omega)]; exact h.2.2.2.2.2
