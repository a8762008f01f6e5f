/-! ===== what the law asks, of positions ===== -/
def lowV (v n : Int32) : Int32 := (v &&& 2147483647) - (v &&& 2147483647) / n * n
theorem lowV_n (v : Int32) {n : Nat} (h0 : 0 < n) (hn : n < 2 ^ 31) : ∃ j, j < n ∧ lowV v (nI n) = nI j := by
  obtain ⟨k, hk, e⟩ := pk_andE v (m := 2147483647) 31 (by decide +kernel)
  refine ⟨k % n, Nat.mod_lt _ h0, ?_⟩
  unfold lowV
  rw [e, pk_rem hk h0 hn]
theorem allC_lt {i j : Nat} (h : i < j) : allC i < allC j := by
  unfold allC codeN
  have e1 : i / 144 = i / 16 / 9 := by omega
  have e2 : j / 144 = j / 16 / 9 := by omega
  omega
theorem mvs_sorted (R : Nat → Nat) (P : Pos) : (mvs R P).Pairwise (fun a b => a < b) := by
  rw [mvs_all]
  exact List.Pairwise.map _ (fun a b h => allC_lt h) (List.Pairwise.filter _ List.pairwise_lt_range)
theorem mvs_lt {R : Nat → Nat} {P : Pos} {i j a b : Nat} (h : i < j) (ha : (mvs R P)[i]? = some a) (hb : (mvs R P)[j]? = some b) : a < b := by
  obtain ⟨hi, rfl⟩ := List.getElem?_eq_some_iff.mp ha
  obtain ⟨hj, rfl⟩ := List.getElem?_eq_some_iff.mp hb
  exact List.pairwise_iff_getElem.mp (mvs_sorted R P) i j hi hj h
/-! a card's place and depth -/
def atD (P : Pos) (p d : Nat) : Option Nat := if p < 5 then (if d < (P.1 p).length then (P.1 p)[(P.1 p).length - 1 - d]? else none) else (P.1 p)[d]?
theorem cardA_at {R : Nat → Nat} {P : Pos} (ho : PosOk P) {p d : Nat} (h8 : p ≠ 8) : cardA R P p d = if d < P.2.1 p then -2 else optI (atD P p d) := by
  unfold cardA atD
  by_cases h5 : p < 5
  · rw [if_pos h5, if_pos h5]
    unfold seenA
    have hh := ho.2.2.2.2.1 p
    by_cases q : d < (P.1 p).length
    · rw [if_pos q, if_pos q]
    · rw [if_neg q, if_neg q, if_neg (by omega)]; rfl
  · rw [if_neg h5, if_neg h8, if_neg h5, if_neg (by rw [ho.2.2.2.2.2 p (by omega)]; omega)]
theorem atD_some {P : Pos} {p d c : Nat} (h : atD P p d = some c) : c ∈ P.1 p ∧ d < (P.1 p).length := by
  unfold atD at h
  by_cases h5 : p < 5
  · rw [if_pos h5] at h
    by_cases q : d < (P.1 p).length
    · rw [if_pos q] at h; exact ⟨List.mem_of_getElem? h, q⟩
    · rw [if_neg q] at h; cases h
  · rw [if_neg h5] at h
    exact ⟨List.mem_of_getElem? h, (List.getElem?_eq_some_iff.mp h).1⟩
theorem atD_ex {P : Pos} {p d : Nat} (h : d < (P.1 p).length) : ∃ c, atD P p d = some c := by
  unfold atD
  by_cases h5 : p < 5
  · rw [if_pos h5, if_pos h]; exact ⟨_, List.getElem?_eq_getElem (by omega)⟩
  · rw [if_neg h5]; exact ⟨_, List.getElem?_eq_getElem h⟩
theorem atD_none {P : Pos} {p d : Nat} (h : (P.1 p).length ≤ d) : atD P p d = none := by
  cases e : atD P p d with
  | none => rfl
  | some c => have := (atD_some e).2; omega
theorem nd_get {l : List Nat} (hn : l.Nodup) {i j c : Nat} (hi : l[i]? = some c) (hj : l[j]? = some c) : i = j := by
  obtain ⟨h1, e1⟩ := List.getElem?_eq_some_iff.mp hi
  obtain ⟨h2, e2⟩ := List.getElem?_eq_some_iff.mp hj
  exact (List.getElem_inj hn).mp (e1.trans e2.symm)
theorem atD_inj {P : Pos} (ho : PosOk P) {p q d e c : Nat} (h1 : atD P p d = some c) (h2 : atD P q e = some c) : p = q ∧ d = e := by
  have hpq : p = q := ho.2.2.1 p q c (atD_some h1).1 (atD_some h2).1
  subst hpq
  refine ⟨rfl, ?_⟩
  have l1 := (atD_some h1).2
  have l2 := (atD_some h2).2
  unfold atD at h1 h2
  by_cases h5 : p < 5
  · rw [if_pos h5, if_pos l1] at h1
    rw [if_pos h5, if_pos l2] at h2
    have := nd_get (ho.2.1 p) h1 h2
    omega
  · rw [if_neg h5] at h1 h2
    exact nd_get (ho.2.1 p) h1 h2
/-! what the law's first loop holds -/
def lenP (P : Pos) (q : Nat) : Nat := (P.1 q).length
def SeenI (P : Pos) (p d : Nat) (seen cards hid : Int32) : Prop :=
  ∃ m, m < 65536 ∧ seen = nI m ∧ (∀ c, m.testBit c = true → ∃ q e, (q < p ∨ (q = p ∧ e < d)) ∧ atD P q e = some c) ∧ cards = nI (sumH (lenP P) p + min (lenP P p) d) ∧ hid = nI (sumH P.2.1 p + min (P.2.1 p) d)
theorem SeenI.zero (P : Pos) : SeenI P 0 0 (nI 0) (nI 0) (nI 0) :=
  ⟨0, (by omega), rfl, (fun c h => absurd h (by rw [Nat.zero_testBit]; exact Bool.false_ne_true)), (by rw [Nat.min_zero]; rfl), (by rw [Nat.min_zero]; rfl)⟩
theorem SeenI.next {P : Pos} (ho : PosOk P) {p d : Nat} {seen cards hid : Int32} (h : SeenI P p d seen cards hid) (hd : d = 16 ∨ p = 8) : SeenI P (p + 1) 0 seen cards hid := by
  obtain ⟨m, h1, h2, h3, h4, h5⟩ := h
  have hl : min (lenP P p) d = lenP P p := by
    have := ho.len p
    rcases hd with z | z
    · unfold lenP; omega
    · have e : P.1 8 = [] := ho.2.2.2.1 8 (Or.inr rfl)
      unfold lenP; rw [z, e]; exact Nat.min_eq_left (Nat.zero_le _)
  have hh : min (P.2.1 p) d = P.2.1 p := by
    have := ho.len p
    have := ho.2.2.2.2.1 p
    have := ho.2.2.2.2.2 8 (by omega)
    rcases hd with z | z
    · omega
    · subst z; omega
  refine ⟨m, h1, h2, fun c hc => ?_, ?_, ?_⟩
  · obtain ⟨q, e, h6, h7⟩ := h3 c hc
    exact ⟨q, e, Or.inl (by omega), h7⟩
  · rw [h4, hl, Nat.min_zero]; rfl
  · rw [h5, hh, Nat.min_zero]; rfl
/-- the three ways of a step -/
theorem SeenI.step {R : Nat → Nat} {P : Pos} (ho : PosOk P) {p d : Nat} (h8 : p ≠ 8) {seen cards hid : Int32} (h : SeenI P p d seen cards hid) :
    (cardA R P p d = -1 ∧ SeenI P p (d + 1) seen cards hid) ∨ (cardA R P p d = -2 ∧ SeenI P p (d + 1) seen (cards + nI 1) (hid + nI 1)) ∨
    ∃ c, c < 16 ∧ cardA R P p d = nI c ∧ (seen >>> (nI c &&& 31)) &&& nI 1 = 0 ∧ SeenI P p (d + 1) (seen ||| (nI 1 <<< (nI c &&& 31))) (cards + nI 1) hid := by
  obtain ⟨m, h1, h2, h3, h4, h5⟩ := h
  have hh := ho.2.2.2.2.1 p
  have keep : ∀ c, m.testBit c = true → ∃ q e, (q < p ∨ (q = p ∧ e < d + 1)) ∧ atD P q e = some c := fun c hc => by
    obtain ⟨q, e, h6, h7⟩ := h3 c hc
    exact ⟨q, e, by omega, h7⟩
  rw [cardA_at ho h8]
  by_cases q1 : d < P.2.1 p
  · rw [if_pos q1]
    refine Or.inr (Or.inl ⟨rfl, m, h1, h2, keep, ?_, ?_⟩)
    · rw [h4, nI_add]; congr 1; unfold lenP; omega
    · rw [h5, nI_add]; congr 1; omega
  · rw [if_neg q1]
    rcases Nat.lt_or_ge d (P.1 p).length with q2 | q2
    · obtain ⟨c, hc⟩ := atD_ex q2
      have hc16 := ho.1 p c (atD_some hc).1
      rw [hc, optI_some]
      have hb : m.testBit c = false := by
        cases e : m.testBit c with
        | false => rfl
        | true =>
          obtain ⟨q, e9, h6, h7⟩ := h3 c e
          obtain ⟨z1, z2⟩ := atD_inj ho hc h7
          omega
      have hs : ((nI c &&& 31 : Int32).toBitVec.smod 32).toNat = c := s_l c (by omega)
      refine Or.inr (Or.inr ⟨c, hc16, rfl, ?_, m ||| 2 ^ c, ?_, ?_, fun x hx => ?_, ?_, ?_⟩)
      · rw [h2, pk_shrN (by omega) _ c hs, nx_and, Nat.and_one_is_mod]
        have := bit_div m c
        rw [hb] at this
        rw [if_neg Bool.false_ne_true] at this
        rw [← this]; rfl
      · exact Nat.lt_of_lt_of_le (Nat.or_lt_two_pow (n := 16) (show m < 2 ^ 16 by omega) (Nat.pow_lt_pow_right (by omega) hc16)) (by decide)
      · have h2c : (2 : Nat) ^ c < 2 ^ 16 := Nat.pow_lt_pow_right (by omega) hc16
        rw [h2, pk_shlN _ c hs (by omega), fa_or, Nat.one_mul]
      · rw [fb_bit_set, Bool.or_eq_true, decide_eq_true_eq] at hx
        rcases hx with z | z
        · exact keep x z
        · exact ⟨p, d, Or.inr ⟨rfl, by omega⟩, by rw [hc, z]⟩
      · rw [h4, nI_add]; congr 1; unfold lenP; omega
      · rw [h5]; congr 1; omega
    · rw [atD_none q2, optI_none]
      refine Or.inl ⟨rfl, m, h1, h2, keep, ?_, ?_⟩
      · rw [h4]; congr 1; unfold lenP; omega
      · rw [h5]; congr 1; omega
theorem cntB_not (p : Nat → Bool) : ∀ n, cntB p n + cntB (fun c => !p c) n = n
  | 0 => rfl
  | n + 1 => by
    have := cntB_not p n
    show cntB p n + (if p n = true then 1 else 0) + (cntB (fun c => !p c) n + (if (!p n) = true then 1 else 0)) = n + 1
    cases p n
    · rw [if_neg Bool.false_ne_true, if_pos (show (!false) = true from rfl)]; omega
    · rw [if_pos rfl, if_neg (show ¬ (!true) = true by decide)]; omega
theorem tot_cards {R : Nat → Nat} {P : Pos} (w : WF R P) (hR : RulesOk R) : sumH (lenP P) 10 + upN P = R 0 * R 1 := by
  have ho := w.1
  have hl : ((List.range 10).flatMap P.1).length = sumH (lenP P) 10 := by
    rw [show List.range 10 = [0, 1, 2, 3, 4, 5, 6, 7, 8, 9] from rfl]
    simp only [List.flatMap_cons, List.flatMap_nil, List.length_append, List.length_nil, sumH, lenP]
    omega
  have hn : ((List.range 10).flatMap P.1).Nodup := by
    refine List.pairwise_flatMap.mpr ⟨fun p _ => ho.2.1 p, ?_⟩
    refine (List.nodup_range (n := 10)).imp ?_
    intro p q hpq c h1 d h2 hcd
    subst hcd
    exact hpq (ho.2.2.1 p q c h1 h2)
  have h1 := cntB_list hn (n := R 0 * R 1) (fun c hc => by
    obtain ⟨p, -, h1⟩ := List.mem_flatMap.mp hc
    exact (w.2.2.2.1 p c h1).1)
  have h2 := cntUp w hR
  rw [sumH_up w hR] at h2
  have h3 := cntB_not (fun c => decide (onN P c = 20)) (R 0 * R 1)
  rw [h2] at h3
  have h4 : cntB (fun c => !decide (onN P c = 20)) (R 0 * R 1) = cntB (fun c => ((List.range 10).flatMap P.1).contains c) (R 0 * R 1) := by
    apply cntB_congr
    intro c _
    apply Bool.eq_iff_iff.mpr
    rw [List.contains_iff_mem, List.mem_flatMap, Bool.not_eq_true', decide_eq_false_iff_not, onN_20 ho]
    constructor
    · intro h
      have : ∃ p, c ∈ P.1 p := Classical.byContradiction fun z => h (fun p hp => z ⟨p, hp⟩)
      obtain ⟨p, hp⟩ := this
      refine ⟨p, List.mem_range.mpr ?_, hp⟩
      rcases Nat.lt_or_ge p 10 with q | q
      · exact q
      · rw [ho.2.2.2.1 p (Or.inl q)] at hp; exact absurd hp List.not_mem_nil
    · rintro ⟨p, -, hp⟩ h
      exact h p hp
  rw [h4, h1, hl] at h3
  omega
theorem tot_hid {P : Pos} (ho : PosOk P) : sumH P.2.1 10 = hidN P := by
  have h5 := ho.2.2.2.2.2
  unfold hidN
  simp only [sumH, h5 5 (by omega), h5 6 (by omega), h5 7 (by omega), h5 8 (by omega), h5 9 (by omega)]
  omega
/-! the hint -/
theorem hintF_spec (R : Nat → Nat) (P : Pos) (least : Int32) : ∀ ms, hintF R P least ms = -1 ∨ ∃ m, m ∈ ms ∧ hintF R P least ms = nI m ∧ (searchA R 100 (playC R P m)).1 = least - nI 1
  | [] => Or.inl rfl
  | m :: r => by
    by_cases q : (searchA R 100 (playC R P m)).1 = least - nI 1
    · exact Or.inr ⟨m, List.mem_cons_self, by show (if _ then _ else _) = _; rw [if_pos q], q⟩
    · rcases hintF_spec R P least r with h | ⟨x, h1, h2, h3⟩
      · exact Or.inl (by show (if _ then _ else _) = _; rw [if_neg q]; exact h)
      · exact Or.inr ⟨x, List.mem_cons_of_mem _ h1, by show (if _ then _ else _) = _; rw [if_neg q]; exact h2, h3⟩
theorem hintA_spec (R : Nat → Nat) (P : Pos) : hintA R P = -1 ∨ (nI 1 ≤ (searchA R 100 P).1 ∧ ∃ f t n, hintA R P = nI (codeN f t n) ∧ f < 10 ∧ t < 9 ∧ 1 ≤ n ∧ n ≤ 16 ∧ (n = 1 ∨ (f < 5 ∧ t < 5)) ∧ f ≠ 8 ∧ legal R P f t n = true ∧ (searchA R 100 (playP R P f t n)).1 = (searchA R 100 P).1 - nI 1) := by
  unfold hintA
  by_cases q : nI 1 ≤ (searchA R 100 P).1
  · rw [if_pos q]
    rcases hintF_spec R P (searchA R 100 P).1 (mvs R P) with h | ⟨m, h1, h2, h3⟩
    · exact Or.inl h
    · obtain ⟨f, t, n, rfl, b1, b2, b3, b4, b5, b6, b7⟩ := mem_mvs h1
      rw [playC_code b1 b2 b4] at h3
      exact Or.inr ⟨q, f, t, n, h2, b1, b2, b3, b4, b5, b6, b7, h3⟩
  · rw [if_neg q]; exact Or.inl rfl
