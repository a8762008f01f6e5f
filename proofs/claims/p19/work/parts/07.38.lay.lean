/-! ===== deals: laying ===== -/
def putP (R : Nat → Nat) (P : Pos) (c p : Nat) : Pos := (fun q => if q = p then c :: P.1 p else P.1 q, fun q => if q = p ∧ p ≠ 9 ∧ R 8 = 1 then (P.1 p).length else P.2.1 q, P.2.2.1, P.2.2.2)
def placeA (R : Nat → Nat) (k : Nat) : Nat := if k < R 0 * R 1 - R 6 then k % R 2 else 9
def layP (R : Nat → Nat) : List Nat → Nat → Pos → Pos
  | [], _, P => P
  | c :: r, k, P => layP R r (k + 1) (putP R P c (placeA R k))
def emptyP : Pos := (fun _ => [], fun _ => 0, fun _ => 0, 0)
/-- the deal of a number -/
def dealP (R : Nat → Nat) (mc x : Nat) : Pos := layP R (cardsA R mc x) 0 emptyP
theorem placeA_lt {R : Nat → Nat} (hR : RulesOk R) (k : Nat) : placeA R k < 10 ∧ (placeA R k < R 2 ∨ placeA R k = 9) := by
  unfold RulesOk at hR
  unfold placeA
  have : k % R 2 < R 2 := Nat.mod_lt _ (by omega)
  split <;> omega
/-- what holds while a deal is laid: all but the last cards of columns are hidden, or none -/
def LayInv (R : Nat → Nat) (P : Pos) (done : List Nat) : Prop :=
  PosOk P ∧ (∀ p, p < 5 → P.2.1 p = if R 8 = 1 then (P.1 p).length - 1 else 0) ∧ (∀ p c, c ∈ P.1 p → c ∈ done) ∧ (∀ c, c ∈ done → ∃ p, c ∈ P.1 p) ∧ (∀ p, 5 ≤ p → p ≠ 9 → P.1 p = []) ∧ (∀ p, p < 5 → R 2 ≤ p → P.1 p = []) ∧ P.2.2.1 = (fun _ => 0) ∧ P.2.2.2 = 0
theorem putP_inv {R : Nat → Nat} {P : Pos} {done : List Nat} (hR : RulesOk R) (h : LayInv R P done) {c p : Nat} (hc : c < 16) (hn : c ∉ done) (hp : p < 10) (hp2 : p < R 2 ∨ p = 9) : LayInv R (putP R P c p) (done ++ [c]) := by
  obtain ⟨ho, h1, h2, h3, h4, h5, h6, h7⟩ := h
  have hR2 : R 2 ≤ 5 := by unfold RulesOk at hR; omega
  have cn : ∀ q, c ∉ P.1 q := fun q hq => hn (h2 q c hq)
  have ep : (putP R P c p).1 p = c :: P.1 p := by unfold putP; dsimp only; rw [if_pos rfl]
  have eq : ∀ q, q ≠ p → (putP R P c p).1 q = P.1 q := by intro q hq; unfold putP; dsimp only; rw [if_neg hq]
  have mem : ∀ q x, x ∈ (putP R P c p).1 q → (q = p ∧ x = c) ∨ x ∈ P.1 q := by
    intro q x hx
    by_cases z : q = p
    · rw [z, ep, List.mem_cons] at hx
      rcases hx with e | e
      · exact Or.inl ⟨z, e⟩
      · right; rw [z]; exact e
    · rw [eq q z] at hx; exact Or.inr hx
  have hh : ∀ q, q < 5 → (putP R P c p).2.1 q = if R 8 = 1 then ((putP R P c p).1 q).length - 1 else 0 := by
    intro q hq
    show (if q = p ∧ p ≠ 9 ∧ R 8 = 1 then (P.1 p).length else P.2.1 q) = _
    by_cases z : q = p
    · subst z
      rw [ep, h1 q hq]
      by_cases y : R 8 = 1
      · rw [if_pos ⟨rfl, by omega, y⟩, if_pos y]; rfl
      · rw [if_neg (fun e => y e.2.2), if_neg y, if_neg y]
    · rw [if_neg (fun e => z e.1), eq q z, h1 q hq]
  refine ⟨⟨?_, ?_, ?_, ?_, ?_, ?_⟩, hh, ?_, ?_, ?_, ?_, h6, h7⟩
  · intro q x hx
    rcases mem q x hx with ⟨-, e⟩ | e
    · rw [e]; exact hc
    · exact ho.1 q x e
  · intro q
    by_cases z : q = p
    · rw [z, ep, List.nodup_cons]; exact ⟨cn p, ho.2.1 p⟩
    · rw [eq q z]; exact ho.2.1 q
  · intro q s x hq hs
    rcases mem q x hq with ⟨q1, q2⟩ | q1 <;> rcases mem s x hs with ⟨s1, s2⟩ | s1
    · omega
    · rw [q2] at s1; exact absurd s1 (cn s)
    · rw [s2] at q1; exact absurd q1 (cn q)
    · exact ho.2.2.1 q s x q1 s1
  · intro q hq
    rw [eq q (by omega)]; exact ho.2.2.2.1 q hq
  · intro q
    by_cases q5 : q < 5
    · rw [hh q q5]
      split
      · rcases Nat.eq_zero_or_pos ((putP R P c p).1 q).length with z | z
        · left; omega
        · right; omega
      · exact Or.inl rfl
    · left
      show (if q = p ∧ p ≠ 9 ∧ R 8 = 1 then (P.1 p).length else P.2.1 q) = 0
      rw [if_neg (by omega)]; exact ho.2.2.2.2.2 q (by omega)
  · intro q hq
    show (if q = p ∧ p ≠ 9 ∧ R 8 = 1 then (P.1 p).length else P.2.1 q) = 0
    rw [if_neg (by omega)]; exact ho.2.2.2.2.2 q hq
  · intro q x hx
    rw [List.mem_append, List.mem_singleton]
    rcases mem q x hx with ⟨-, e⟩ | e
    · exact Or.inr e
    · exact Or.inl (h2 q x e)
  · intro x hx
    rw [List.mem_append, List.mem_singleton] at hx
    rcases hx with e | e
    · obtain ⟨q, hq⟩ := h3 x e
      refine ⟨q, ?_⟩
      by_cases z : q = p
      · rw [z, ep]; rw [z] at hq; exact List.mem_cons_of_mem _ hq
      · rw [eq q z]; exact hq
    · exact ⟨p, by rw [ep, e]; exact List.mem_cons_self⟩
  · intro q hq hq9; rw [eq q (by omega)]; exact h4 q hq hq9
  · intro q hq hq2; rw [eq q (by omega)]; exact h5 q hq hq2
theorem onN_put {R : Nat → Nat} {P : Pos} {done : List Nat} (hR : RulesOk R) (h : LayInv R P done) {c p : Nat} (hc : c < 16) (hn : c ∉ done) (hp : p < 10) (hp2 : p < R 2 ∨ p = 9) (x : Nat) : onN (putP R P c p) x = if x = c then (P.1 p).headD (floorN p) else onN P x := by
  have ho' := (putP_inv hR h hc hn hp hp2).1
  have ho := h.1
  have cn : ∀ q, c ∉ P.1 q := fun q hq => hn (h.2.2.1 q c hq)
  have ep : (putP R P c p).1 p = c :: P.1 p := by unfold putP; dsimp only; rw [if_pos rfl]
  have eq : ∀ q, q ≠ p → (putP R P c p).1 q = P.1 q := by intro q hq; unfold putP; dsimp only; rw [if_neg hq]
  by_cases e : x = c
  · subst e
    rw [if_pos rfl, onN_in ho' hp 0 (by rw [ep]; rfl), ep]
    cases P.1 p <;> rfl
  · rw [if_neg e]
    by_cases hx : ∃ q, x ∈ P.1 q
    · obtain ⟨q, hq⟩ := hx
      have hq10 := (ho.place hq).1
      obtain ⟨k, hk, e2⟩ := List.getElem_of_mem hq
      have hk2 : (P.1 q)[k]? = some x := by rw [List.getElem?_eq_getElem hk, e2]
      rw [onN_in ho hq10 k hk2]
      by_cases z : q = p
      · subst z
        rw [onN_in ho' hp (k + 1) (by rw [ep]; exact hk2), ep]; rfl
      · rw [onN_in ho' hq10 k (by rw [eq q z]; exact hk2), eq q z]
    · have hx : ∀ q, x ∉ P.1 q := fun q h => hx ⟨q, h⟩
      rw [(onN_20 ho).mpr hx, (onN_20 ho').mpr]
      intro q hq
      by_cases z : q = p
      · rw [z, ep, List.mem_cons] at hq
        rcases hq with y | y
        · exact e y
        · exact hx p y
      · rw [eq q z] at hq; exact hx q hq
theorem hidB_put {R : Nat → Nat} {P : Pos} {done : List Nat} (hR : RulesOk R) (h : LayInv R P done) {c p : Nat} (hc : c < 16) (hn : c ∉ done) (hp : p < 10) (hp2 : p < R 2 ∨ p = 9) (x : Nat) : hidB (putP R P c p) x = (hidB P x || decide (p ≠ 9 ∧ R 8 = 1 ∧ (P.1 p)[0]? = some x)) := by
  have hinv := putP_inv hR h hc hn hp hp2
  have ho' := hinv.1
  have ho := h.1
  have hR2 : R 2 ≤ 5 := by unfold RulesOk at hR; omega
  have cn : ∀ q, c ∉ P.1 q := fun q hq => hn (h.2.2.1 q c hq)
  have ep : (putP R P c p).1 p = c :: P.1 p := by unfold putP; dsimp only; rw [if_pos rfl]
  have eq : ∀ q, q ≠ p → (putP R P c p).1 q = P.1 q := by intro q hq; unfold putP; dsimp only; rw [if_neg hq]
  have off : ∀ Q : Pos, (∀ q, q < 5 → x ∉ Q.1 q) → hidB Q x = false := by
    intro Q hQ
    unfold hidB
    rw [List.any_eq_false]
    intro q hq hh
    have : x ∈ (Q.1 q).drop ((Q.1 q).length - Q.2.1 q) := by simpa using hh
    exact hQ q (by simpa using hq) (List.mem_of_mem_drop this)
  by_cases hx : ∃ q, q < 5 ∧ x ∈ P.1 q
  · obtain ⟨q, q5, hq⟩ := hx
    obtain ⟨k, hk, e2⟩ := List.getElem_of_mem hq
    have hk2 : (P.1 q)[k]? = some x := by rw [List.getElem?_eq_getElem hk, e2]
    rw [hidB_at ho q5 hk2, h.2.1 q q5]
    by_cases z : q = p
    · subst z
      have e3 : ((putP R P c q).1 q)[k + 1]? = some x := by rw [ep]; exact hk2
      rw [hidB_at ho' q5 e3, hinv.2.1 q q5, ep]
      have inj : (P.1 q)[0]? = some x ↔ k = 0 := by
        constructor
        · intro e; exact ((List.getElem?_inj hk (ho.2.1 q)).mp (hk2.trans e.symm))
        · intro e; subst e; exact hk2
      simp only [List.length_cons]
      by_cases y : R 8 = 1
      · simp only [y, if_true, inj, show q ≠ 9 by omega, ne_eq, not_false_eq_true, true_and]
        rw [Bool.eq_iff_iff]
        simp only [decide_eq_true_eq, Bool.or_eq_true]
        omega
      · simp only [y, if_false, false_and, and_false, decide_false, Bool.or_false]
        congr 1; simp only [eq_iff_iff]; omega
    · have e3 : ((putP R P c p).1 q)[k]? = some x := by rw [eq q z]; exact hk2
      rw [hidB_at ho' q5 e3, hinv.2.1 q q5, eq q z]
      have : (P.1 p)[0]? ≠ some x := fun e => z (ho.2.2.1 q p x hq (List.mem_of_getElem? e))
      simp [this]
  · have hx : ∀ q, q < 5 → x ∉ P.1 q := fun q hq h => hx ⟨q, hq, h⟩
    rw [off P hx, Bool.false_or]
    have e1 : decide (p ≠ 9 ∧ R 8 = 1 ∧ (P.1 p)[0]? = some x) = false := by
      apply decide_eq_false
      rintro ⟨p9, -, e⟩
      exact hx p (by omega) (List.mem_of_getElem? e)
    rw [e1]
    by_cases xc : x = c ∧ p < 5
    · obtain ⟨rfl, p5⟩ := xc
      have e3 : ((putP R P x p).1 p)[0]? = some x := by rw [ep]; rfl
      rw [hidB_at ho' p5 e3, hinv.2.1 p p5, ep]
      apply decide_eq_false
      simp only [List.length_cons]
      split <;> omega
    · apply off
      intro q q5 hq
      by_cases z : q = p
      · rw [z, ep, List.mem_cons] at hq
        rcases hq with y | y
        · exact xc ⟨y, by omega⟩
        · exact hx p (by omega) y
      · rw [eq q z] at hq; exact hx q q5 hq
theorem s_lay_step {T : Nat → Nat → Int32} {r : Nat → Int32} {R : Nat → Nat} {P : Pos} {done : List Nat} (hT : TRep T P) (hr : RR r R) (h : LayInv R P done) {c p : Nat} (hc : c < 16) (hn : c ∉ done) (hp : p < 10) (hp2 : p < R 2 ∨ p = 9) {D : Nat → Nat → Int32} {cs : List Nat} (hD : DRep D cs) {k : Nat} (hk : k < 16) (hck : cs[k]? = some c) (K : (Nat → Nat → Int32) → Int32 → Int32 → Option (Nat → Nat → Int32)) (v3 : Int32) :
    ∃ T', TRep T' (putP R P c p) ∧ F_X4_lay_b74 r D K T v3 (nI k) (nI p) = K T' v3 (nI (k + 1)) := by
  have ho := h.1
  have hR2 : R 2 ≤ 5 := by have := hr.2; unfold RulesOk at this; omega
  have hR8 : R 8 ≤ 1 := by have := hr.2; unfold RulesOk at this; omega
  obtain ⟨m, hm, em, hb⟩ := hT.2.2.1
  have step : ∀ (T1 : Nat → Nat → Int32) (m' : Nat), m' < 65536 → T1 0 5 = nI m' → (∀ x, x < 16 → m'.testBit x = (m.testBit x || decide (p ≠ 9 ∧ R 8 = 1 ∧ (P.1 p)[0]? = some x))) → T1 0 6 = T 0 6 → (∀ i, T1 1 i = T 1 i) → (∀ i, T1 2 i = T 2 i) →
      ∃ T', TRep T' (putP R P c p) ∧ F_X4_lay_b119 r D K T1 v3 (nI k) (nI p) = K T' v3 (nI (k + 1)) := by
    intro T1 m' hm' e5 hb5' e6 e1 e2
    unfold F_X4_lay_b119
    rw [s_takenAt hD hk hck, cal1_s, cal1_s, nI_add]
    have e2t : T1 2 p = topI (P.1 p) := by rw [e2]; exact hT.1 p hp
    have hx : nI ((P.1 p).headD (floorN p)) = if T1 2 p = -1 then nI (floorN p) else T1 2 p := by rw [e2t, topI_cases (ho.1 p)]
    rw [s_layOn hc hp hx, cal1_s, if_neg (by omega)]
    refine ⟨_, ⟨?_, ?_, ?_, ?_, ?_⟩, rfl⟩
    · intro q hq
      unfold putP; dsimp only
      by_cases z : q = p
      · rw [if_pos z]; simp [st2_s, z, topI]
      · rw [if_neg z, ← hT.1 q hq, ← e2]; simp [st2_s, z]
    · intro x hx2
      rw [onN_put hr.2 h hc hn hp hp2 x]
      by_cases z : x = c
      · rw [if_pos z]; simp [st2_s, z]
      · rw [if_neg z, ← hT.2.1 x hx2, ← e1]; simp [st2_s, z]
    · refine ⟨m', hm', by simp [st2_s, e5], fun x hx2 => ?_⟩
      rw [hidB_put hr.2 h hc hn hp hp2 x, hb5' x hx2, hb x hx2]
    · show _ = nI P.2.2.2
      rw [← hT.2.2.2.1, ← e6]; simp [st2_s]
    · exact hT.2.2.2.2
  unfold F_X4_lay_b74
  rw [s_topOf hT hp, cal1_s, hr.1 8 (by omega)]
  by_cases q8 : R 8 = 0
  · rw [if_pos (by rw [q8])]
    exact step T m hm em (fun x _ => by simp [q8]) rfl (fun _ => rfl) (fun _ => rfl)
  · rw [if_neg (by rw [nI_eq (by omega) (by omega)]; exact q8)]
    by_cases p9 : p = 9
    · rw [if_pos (by rw [p9])]
      exact step T m hm em (fun x _ => by simp [p9]) rfl (fun _ => rfl) (fun _ => rfl)
    · rw [if_neg (by rw [nI_eq (by omega) (by omega)]; exact p9), topI_opt]
      cases e : (P.1 p)[0]? with
      | none =>
        rw [optI_none, s_isCard_none, cal1_s, if_pos (by rfl)]
        exact step T m hm em (fun x _ => by simp [e]) rfl (fun _ => rfl) (fun _ => rfl)
      | some d =>
        have hd := ho.1 p d (List.mem_of_getElem? e)
        rw [optI_some, s_isCard (by omega), cal1_s, if_neg (by rw [bi_eq0]; simp [hd]), bnd_s, em]
        obtain ⟨m', a1, a2, a3⟩ := set_bit hm hd
        rw [a2]
        have h81 : R 8 = 1 := by omega
        exact step _ m' a1 (by simp [st2_s]) (fun x hx => by rw [a3 x hx, e]; simp [p9, h81, @eq_comm _ x d]) (by simp [st2_s]) (by simp [st2_s]) (by simp [st2_s])
