/-! ===== deals: drawing ===== -/
def nextN (mc x : Nat) : Nat := if mc = 0 then (x * 214013 + 2531011) % 2147483648 else (x * 1103515245 + 12345) % 2147483648
/-- the cards in the order in which a machine takes them: l cards lie in a row -/
def drawL (mc : Nat) : Nat → Nat → (Nat → Nat) → List Nat
  | 0, _, _ => []
  | l + 1, x, row => row (nextN mc x / 65536 % 32768 % (l + 1)) :: drawL mc l (nextN mc x) (fun i => if i = nextN mc x / 65536 % 32768 % (l + 1) then row l else row i)
theorem nextN_lt (mc x : Nat) : nextN mc x < 2147483648 := by
  unfold nextN
  split <;> exact Nat.mod_lt _ (by omega)
theorem s_nextOf {mc x : Nat} (hm : mc < 2) : F_X0_nextOf (nI mc) (nI x) = some (nI (nextN mc x)) := by
  have mk : ∀ n, nI n &&& nI 2147483647 = nI (n % 2147483648) := fun n => fa_mask n 31
  unfold F_X0_nextOf F_X0_nextOf_b22 nextN
  by_cases q : mc = 0
  · subst q; rw [if_pos rfl, if_pos rfl, pk_mul, nI_add, mk]
  · rw [if_neg (by rw [nI_eq (by omega) (by omega)]; exact q), if_neg q, pk_mul, nI_add, mk]
theorem drawL_len (mc : Nat) : ∀ (l x : Nat) (row : Nat → Nat), (drawL mc l x row).length = l
  | 0, _, _ => rfl
  | l + 1, x, row => by
    show (drawL mc l _ _).length + 1 = l + 1
    rw [drawL_len mc l]
theorem drawL_mem (mc : Nat) : ∀ (l x : Nat) (row : Nat → Nat) (c : Nat), c ∈ drawL mc l x row ↔ ∃ i, i < l ∧ row i = c
  | 0, _, _, c => by simp [drawL]
  | l + 1, x, row, c => by
    unfold drawL
    rw [List.mem_cons, drawL_mem mc l]
    have hp : nextN mc x / 65536 % 32768 % (l + 1) < l + 1 := Nat.mod_lt _ (by omega)
    generalize nextN mc x / 65536 % 32768 % (l + 1) = p at hp
    constructor
    · rintro (e | ⟨i, hi, e⟩)
      · exact ⟨p, hp, e.symm⟩
      · by_cases q : i = p
        · rw [if_pos q] at e; exact ⟨l, by omega, e⟩
        · rw [if_neg q] at e; exact ⟨i, by omega, e⟩
    · rintro ⟨i, hi, e⟩
      by_cases q : i = p
      · left; rw [← q]; exact e.symm
      · right
        rcases Nat.lt_or_ge i l with z | z
        · exact ⟨i, z, by rw [if_neg q]; exact e⟩
        · have : i = l := by omega
          subst this
          exact ⟨p, by omega, by rw [if_pos rfl]; exact e⟩
theorem drawL_nodup (mc : Nat) : ∀ (l x : Nat) (row : Nat → Nat), (∀ i j, i < l → j < l → row i = row j → i = j) → (drawL mc l x row).Nodup
  | 0, _, _, _ => List.nodup_nil
  | l + 1, x, row, h => by
    unfold drawL
    have hp : nextN mc x / 65536 % 32768 % (l + 1) < l + 1 := Nat.mod_lt _ (by omega)
    generalize nextN mc x / 65536 % 32768 % (l + 1) = p at hp
    rw [List.nodup_cons]
    constructor
    · rw [drawL_mem]
      rintro ⟨i, hi, e⟩
      by_cases q : i = p
      · rw [if_pos q] at e
        have := h l p (by omega) hp e
        omega
      · rw [if_neg q] at e
        exact q (h i p (by omega) hp e)
    · apply drawL_nodup mc l
      intro i j hi hj e
      by_cases q : i = p <;> by_cases q2 : j = p
      · omega
      · rw [if_pos q, if_neg q2] at e
        have := h l j (by omega) (by omega) e
        omega
      · rw [if_neg q, if_pos q2] at e
        have := h i l (by omega) (by omega) e
        omega
      · rw [if_neg q, if_neg q2] at e
        exact h i j (by omega) (by omega) e
theorem s_draw_L39 {mc N : Nat} (hm : mc < 2) (hN : N ≤ 16) : ∀ (l x n : Nat) (D : Nat → Nat → Int32) (row : Nat → Nat), l ≤ N → l < n → (∀ i, i < l → D 0 i = nI (row i)) → ∃ D', F_X0_draw_L39 n D (nI mc) (nI N) (nI x) (nI l) = some D' ∧ (∀ i c, (drawL mc l x row)[i]? = some c → D' 1 (N - l + i) = nI c) ∧ ∀ i, i < N - l → D' 1 i = D 1 i := by
  intro l
  induction l with
  | zero =>
    intro x n D row hl hn hD
    obtain ⟨n, rfl⟩ : ∃ q, n = q + 1 := ⟨n - 1, by omega⟩
    refine ⟨D, ?_, fun i c h => by simp [drawL] at h, fun i _ => rfl⟩
    show F_X0_draw_s39 (F_X0_draw_L39 n) _ _ _ _ _ = _
    unfold F_X0_draw_s39
    rw [if_pos (by exact Int32.le_refl _)]
  | succ l ih =>
    intro x n D row hl hn hD
    obtain ⟨n, rfl⟩ : ∃ q, n = q + 1 := ⟨n - 1, by omega⟩
    show ∃ D', F_X0_draw_s39 (F_X0_draw_L39 n) _ _ _ _ _ = _ ∧ _
    unfold F_X0_draw_s39
    have hx := nextN_lt mc x
    have hp : nextN mc x / 65536 % 32768 % (l + 1) < l + 1 := Nat.mod_lt _ (by omega)
    rw [if_neg (nI_ge (by omega) (by omega)), s_nextOf hm, cal1_s, nz_n _ (by omega) (by omega), nz_n _ (by omega) (by omega), nz_n _ (by omega) (by omega), pk_div (by omega) (by omega) (by omega), pk_rem (by omega) (by omega) (by omega), pk_rem (by omega) (by omega) (by omega)]
    unfold drawL
    generalize nextN mc x / 65536 % 32768 % (l + 1) = p at hp ⊢
    rw [s_at (by omega) (by omega), cal1_s, pk_sub (by omega), s_put (by omega) (by omega), cal1_s, bnd_s, setc_upd, pk_sub (by omega), s_at (by omega) (by omega), cal1_s, s_put (by omega) (by omega), cal1_s, bnd_s, setc_upd, pk_m1, hD p hp]
    obtain ⟨D', e1, e2, e3⟩ := ih (nextN mc x) n _ (fun i => if i = p then row l else row i) (by omega) (by omega) (show ∀ i, i < l → st2 (st2 D 1 (N - (l + 1)) (nI (row p))) 0 p (st2 D 1 (N - (l + 1)) (nI (row p)) 0 (l + 1 - 1)) 0 i = nI (if i = p then row l else row i) from by
      intro i hi
      rw [st2_s]
      by_cases q : i = p
      · rw [if_pos ⟨rfl, q⟩, if_pos q, st2_s, if_neg (by omega), show l + 1 - 1 = l by omega]; exact hD l (by omega)
      · rw [if_neg (by omega), if_neg q, st2_s, if_neg (by omega)]; exact hD i (by omega))
    refine ⟨D', e1, ?_, ?_⟩
    · intro i c h
      cases i with
      | zero =>
        simp only [List.getElem?_cons_zero, Option.some.injEq] at h
        subst h
        rw [e3 _ (by omega), st2_s, if_neg (by omega), st2_s, if_pos ⟨rfl, by omega⟩]
      | succ i =>
        simp only [List.getElem?_cons_succ] at h
        rw [show N - (l + 1) + (i + 1) = N - l + i by omega]
        exact e2 i c h
    · intro i hi
      rw [e3 i (by omega), st2_s, if_neg (by omega), st2_s, if_neg (by omega)]
theorem s_draw_L3 {mc N x : Nat} (hm : mc < 2) (hN : N ≤ 16) : ∀ (j k n : Nat) (D : Nat → Nat → Int32), k + j = 16 → j < n → (∀ i, i < k → D 0 i = nI i) → ∃ D', F_X0_draw_L3 n D (nI mc) (nI x) (nI N) (nI k) = some D' ∧ ∀ i c, (drawL mc N x id)[i]? = some c → D' 1 i = nI c := by
  intro j
  induction j with
  | zero =>
    intro k n D hk hn hD
    obtain ⟨n, rfl⟩ : ∃ q, n = q + 1 := ⟨n - 1, by omega⟩
    show ∃ D', F_X0_draw_s3 (F_X0_draw_L3 n) _ _ _ _ _ = _ ∧ _
    unfold F_X0_draw_s3 F_X0_draw_b28
    rw [if_pos (nI_le (by omega) (by omega)), if_neg (nI_nlt (by omega) (by omega))]
    obtain ⟨D', e1, e2, -⟩ := s_draw_L39 hm hN N x FU D id (Nat.le_refl _) (FU_gt (by omega)) (fun i hi => hD i (by omega))
    refine ⟨D', e1, fun i c h => ?_⟩
    have := e2 i c h
    rwa [show N - N + i = i by omega] at this
  | succ j ih =>
    intro k n D hk hn hD
    obtain ⟨n, rfl⟩ : ∃ q, n = q + 1 := ⟨n - 1, by omega⟩
    show ∃ D', F_X0_draw_s3 (F_X0_draw_L3 n) _ _ _ _ _ = _ ∧ _
    unfold F_X0_draw_s3
    rw [if_neg (nI_ge (by omega) (by omega)), wrA_n _ (by omega) (by omega), nI_add]
    refine ih (k + 1) n _ (by omega) (by omega) (fun i hi => ?_)
    rw [st2_s]
    by_cases q : i = k
    · rw [if_pos ⟨rfl, q⟩, q]
    · rw [if_neg (by omega)]; exact hD i (by omega)
/-- a drawing holds the cards taken -/
def DRep (D : Nat → Nat → Int32) (cs : List Nat) : Prop := ∀ i c, cs[i]? = some c → D 1 i = nI c
def cardsA (R : Nat → Nat) (mc x : Nat) : List Nat := drawL mc (R 0 * R 1) x id
theorem s_draw {mc x : Nat} {R : Nat → Nat} (hm : mc < 2) (hR : RulesOk R) (D : Nat → Nat → Int32) : ∃ D', F_X0_draw D (nI mc) (nI x) (nI (R 0 * R 1)) = some D' ∧ DRep D' (cardsA R mc x) :=
  s_draw_L3 hm (by unfold RulesOk at hR; omega) 16 0 FU D (by omega) (FU_gt (by omega)) (fun i hi => absurd hi (Nat.not_lt_zero i))
theorem cardsA_lt {R : Nat → Nat} {mc x c : Nat} (h : c ∈ cardsA R mc x) : c < R 0 * R 1 := by
  unfold cardsA at h
  rw [drawL_mem] at h
  obtain ⟨i, hi, e⟩ := h
  rw [← e]; exact hi
theorem cardsA_mem {R : Nat → Nat} {mc x c : Nat} (h : c < R 0 * R 1) : c ∈ cardsA R mc x := by
  unfold cardsA
  rw [drawL_mem]
  exact ⟨c, h, rfl⟩
theorem cardsA_nodup (R : Nat → Nat) (mc x : Nat) : (cardsA R mc x).Nodup := drawL_nodup mc _ x id (fun _ _ _ _ e => e)
theorem cardsA_len (R : Nat → Nat) (mc x : Nat) : (cardsA R mc x).length = R 0 * R 1 := drawL_len mc _ x id
theorem s_takenAt {D : Nat → Nat → Int32} {cs : List Nat} (h : DRep D cs) {i c : Nat} (hi : i < 16) (hc : cs[i]? = some c) : F_X0_takenAt D (nI i) = some (nI c) := by
  unfold F_X0_takenAt
  rw [s_at (by omega) hi, cal1_s, h i c hc]
theorem s_isSame_L {D D2 : Nat → Nat → Int32} {cs cs2 : List Nat} {N : Nat} (h : DRep D cs) (h2 : DRep D2 cs2) (hN : N ≤ 16) (l1 : cs.length = N) (l2 : cs2.length = N) (hc : ∀ c, c ∈ cs → c < 16) (hc2 : ∀ c, c ∈ cs2 → c < 16) : ∀ (j k n : Nat), k + j = N → j < n → F_X0_isSameAs_L2 D D2 n (nI N) (nI k) = some (bi (decide (cs.drop k = cs2.drop k))) := by
  intro j
  induction j with
  | zero =>
    intro k n hk hn
    obtain ⟨n, rfl⟩ : ∃ q, n = q + 1 := ⟨n - 1, by omega⟩
    show F_X0_isSameAs_s2 D D2 (F_X0_isSameAs_L2 D D2 n) _ _ = _
    unfold F_X0_isSameAs_s2
    rw [if_pos (nI_le (by omega) (by omega)), zb1, List.drop_eq_nil_of_le (by omega), List.drop_eq_nil_of_le (by omega)]; rfl
  | succ j ih =>
    intro k n hk hn
    obtain ⟨n, rfl⟩ : ∃ q, n = q + 1 := ⟨n - 1, by omega⟩
    show F_X0_isSameAs_s2 D D2 (F_X0_isSameAs_L2 D D2 n) _ _ = _
    unfold F_X0_isSameAs_s2
    have e1 : cs[k]? = some cs[k] := List.getElem?_eq_getElem (by omega)
    have e2 : cs2[k]? = some cs2[k] := List.getElem?_eq_getElem (by omega)
    have b1 := hc _ (List.mem_of_getElem? e1)
    have b2 := hc2 _ (List.mem_of_getElem? e2)
    rw [if_neg (nI_ge (by omega) (by omega)), s_takenAt h (by omega) e1, cal1_s, s_takenAt h2 (by omega) e2, cal1_s, nI_add, ih (k + 1) n (by omega) (by omega), List.drop_eq_getElem_cons (show k < cs.length by omega), List.drop_eq_getElem_cons (show k < cs2.length by omega)]
    generalize cs.drop (k + 1) = t1
    generalize cs2.drop (k + 1) = t2
    generalize cs[k] = a1 at b1 ⊢
    generalize cs2[k] = a2 at b2 ⊢
    by_cases q : a1 = a2
    · subst q; rw [if_pos rfl]; simp
    · rw [if_neg (by rw [nI_eq (by omega) (by omega)]; exact q), zb0]; simp [q, bi]
theorem s_isSameAs {D D2 : Nat → Nat → Int32} {cs cs2 : List Nat} {N : Nat} (h : DRep D cs) (h2 : DRep D2 cs2) (hN : N ≤ 16) (l1 : cs.length = N) (l2 : cs2.length = N) (hc : ∀ c, c ∈ cs → c < 16) (hc2 : ∀ c, c ∈ cs2 → c < 16) : F_X0_isSameAs D D2 (nI N) = some (bi (decide (cs = cs2))) :=
  s_isSame_L h h2 hN l1 l2 hc hc2 N 0 FU (by omega) (FU_gt (by omega))
