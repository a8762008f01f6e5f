/-! ===== alike by the cards below: alike by sorted numbers ===== -/
theorem floor_kind {p q : Nat} (hp : p < 10) (hq : q < 10) (h : floorN q = floorN p) : (p < 5 ↔ q < 5) ∧ ((p = 5 ∨ p = 6) ↔ (q = 5 ∨ q = 6)) ∧ (p = 7 ↔ q = 7) ∧ (p = 8 ↔ q = 8) := by
  unfold floorN at h
  refine ⟨?_, ?_, ?_, ?_⟩ <;> (repeat' split at h) <;> omega
theorem on_Mt {P Q : Pos} (hP : PosOk P) (hQ : PosOk Q) (h : ∀ c, c < 16 → onN P c = onN Q c) (h2 : ∀ c, c < 16 → hidB P c = hidB Q c) : Mt P Q := by
  have one : ∀ p, p = 7 ∨ p = 9 → P.1 p ≠ [] → Q.1 p = P.1 p := by
    intro p hp hne
    obtain ⟨q, hq, hf, e⟩ := on_list hP hQ h (show p < 10 by omega) (by omega) hne
    have := floor_kind (show p < 10 by omega) hq hf
    have : q = p := by omega
    subst this; exact e
  have one' : ∀ p, p = 7 ∨ p = 9 → Q.1 p ≠ [] → P.1 p = Q.1 p := by
    intro p hp hne
    obtain ⟨q, hq, hf, e⟩ := on_list hQ hP (fun c hc => (h c hc).symm) (show p < 10 by omega) (by omega) hne
    have := floor_kind (show p < 10 by omega) hq hf
    have : q = p := by omega
    subst this; exact e
  have both : ∀ p, p = 7 ∨ p = 9 → Q.1 p = P.1 p := by
    intro p hp
    by_cases z : P.1 p = []
    · by_cases y : Q.1 p = []
      · rw [z, y]
      · exact (one' p hp y).symm
    · exact one p hp z
  refine ⟨?_, ?_, both 7 (Or.inl rfl), both 9 (Or.inr rfl)⟩
  · intro p hp hne
    obtain ⟨q, hq, hf, e⟩ := on_list hP hQ h (show p < 10 by omega) (by omega) hne
    have hq5 := (floor_kind (show p < 10 by omega) hq hf).1.mp hp
    refine ⟨q, hq5, e, ?_⟩
    have l1 := hid_lt hP hne
    have l2 := hid_lt hQ (f := q) (by rw [e]; exact hne)
    rw [e] at l2
    have key : ∀ k, k < (P.1 p).length → ((P.1 p).length - k ≤ P.2.1 p ↔ (P.1 p).length - k ≤ Q.2.1 q) := by
      intro k hk
      have hk1 : (P.1 p)[k]? = some (P.1 p)[k] := List.getElem?_eq_getElem hk
      have hk2 : (Q.1 q)[k]? = some (P.1 p)[k] := by rw [e]; exact hk1
      have a := hidB_at hP hp hk1
      have b := hidB_at hQ hq5 hk2
      rw [h2 _ (hP.1 p _ (List.getElem_mem hk)), b, e] at a
      exact (decide_eq_decide.mp a).symm
    rcases Nat.lt_trichotomy (P.2.1 p) (Q.2.1 q) with z | z | z
    · have := key ((P.1 p).length - Q.2.1 q) (by omega)
      omega
    · exact z.symm
    · have := key ((P.1 p).length - P.2.1 p) (by omega)
      omega
  · intro c hc
    have go : ∀ p, p = 5 ∨ p = 6 → c ∈ P.1 p → c ∈ Q.1 5 ∨ c ∈ Q.1 6 := by
      intro p hp hcp
      obtain ⟨q, hq, hf, e⟩ := on_list hP hQ h (show p < 10 by omega) (by omega) (fun y => by rw [y] at hcp; cases hcp)
      have h5 := (floor_kind (show p < 10 by omega) hq hf).2.1.mp hp
      rw [← e] at hcp
      rcases h5 with z | z
      · rw [z] at hcp; exact Or.inl hcp
      · rw [z] at hcp; exact Or.inr hcp
    rcases hc with y | y
    · exact go 5 (Or.inl rfl) y
    · exact go 6 (Or.inr rfl) y
def nek (x : Nat × Nat) : Bool := !decide (x = (0, 0))
theorem ckey_0 {P : Pos} (hP : KOk P) (p : Nat) : ckey P p = (0, 0) ↔ P.1 p = [] := by
  constructor
  · intro h
    have := congrArg Prod.snd h
    unfold ckey hgt at this
    dsimp only at this
    exact List.length_eq_zero_iff.mp (by omega)
  · intro h
    have := hP.1.2.2.2.2.1 p
    rw [h] at this
    unfold ckey hgt
    rw [h]
    simp only [List.length_nil, Nat.not_lt_zero, or_false] at this
    rw [this]; rfl
theorem ckey_inj {P Q : Pos} (hP : KOk P) (hQ : KOk Q) {p q : Nat} (h : ckey P p = ckey Q q) : P.1 p = Q.1 q ∧ P.2.1 p = Q.2.1 q := by
  have h1 := congrArg Prod.fst h
  have h2 := congrArg Prod.snd h
  unfold ckey hgt at h1 h2
  dsimp only at h1 h2
  have l1 := hP.1.len p
  have l2 := hQ.1.len q
  exact ⟨pkT_inj (hP.1.1 p) (hQ.1.1 q) (by omega) h1, by omega⟩
theorem nek_nodup {P : Pos} (hP : KOk P) (N : Nat) : ((APl P N).filter nek).Nodup := by
  unfold APl
  rw [List.filter_map]
  unfold List.Nodup
  rw [List.pairwise_map]
  refine List.Pairwise.imp_of_mem ?_ ((List.pairwise_lt_range (n := N)).filter _)
  intro a b ha hb hab y
  have h1 := (List.mem_filter.mp ha).2
  obtain ⟨e, -⟩ := ckey_inj hP hP y
  have hne : P.1 a ≠ [] := fun z => by
    rw [← ckey_0 hP a] at z
    simp [nek, z] at h1
  obtain ⟨c, l, ec⟩ : ∃ c l, P.1 a = c :: l := by
    cases ec : P.1 a with
    | nil => exact absurd ec hne
    | cons c l => exact ⟨c, l, rfl⟩
  have := hP.1.2.2.1 a b c (by rw [ec]; simp) (by rw [← e, ec]; simp)
  omega
theorem Mt_sub {P Q : Pos} (hP : KOk P) (hQ : KOk Q) (h : Mt P Q) {N : Nat} (hN : N ≤ 5) (hcol : ∀ p, p < 5 → N ≤ p → Q.1 p = []) {x : Nat × Nat} (hx : x ∈ (APl P N).filter nek) : x ∈ (APl Q N).filter nek := by
  rw [List.mem_filter] at hx ⊢
  obtain ⟨hx, hn⟩ := hx
  refine ⟨?_, hn⟩
  unfold APl at hx ⊢
  rw [List.mem_map] at hx ⊢
  obtain ⟨p, hp, rfl⟩ := hx
  have hp2 : p < N := by simpa using hp
  have hne : P.1 p ≠ [] := fun z => by
    rw [← ckey_0 hP p] at z
    simp [nek, z] at hn
  obtain ⟨q, hq, e1, e2⟩ := h.1 p (by omega) hne
  refine ⟨q, ?_, by unfold ckey hgt; rw [e1, e2]⟩
  have : q < N := by
    rcases Nat.lt_or_ge q N with z | z
    · exact z
    · have := hcol q hq z
      rw [e1] at this
      exact absurd this hne
  simpa using this
theorem Mt_perm {P Q : Pos} (hP : KOk P) (hQ : KOk Q) (h : Mt P Q) (h' : Mt Q P) {N : Nat} (hN : N ≤ 5) (hcolP : ∀ p, p < 5 → N ≤ p → P.1 p = []) (hcolQ : ∀ p, p < 5 → N ≤ p → Q.1 p = []) : (APl P N).Perm (APl Q N) := by
  have h1 : ((APl P N).filter nek).Perm ((APl Q N).filter nek) := by
    rw [List.perm_ext_iff_of_nodup (nek_nodup hP N) (nek_nodup hQ N)]
    exact fun x => ⟨fun hx => Mt_sub hP hQ h hN hcolQ hx, fun hx => Mt_sub hQ hP h' hN hcolP hx⟩
  have rep : ∀ l : List (Nat × Nat), l.filter (fun x => !nek x) = List.replicate (l.filter (fun x => !nek x)).length (0, 0) := by
    intro l
    apply List.eq_replicate_of_mem
    intro b hb
    have := (List.mem_filter.mp hb).2
    simpa [nek] using this
  have lP := (List.filter_append_perm nek (APl P N)).length_eq
  have lQ := (List.filter_append_perm nek (APl Q N)).length_eq
  have l1 := h1.length_eq
  simp only [List.length_append] at lP lQ
  have eP : (APl P N).length = N := by unfold APl; simp
  have eQ : (APl Q N).length = N := by unfold APl; simp
  have h2 : (APl P N).filter (fun x => !nek x) = (APl Q N).filter (fun x => !nek x) := by
    rw [rep (APl P N), rep (APl Q N), show ((APl P N).filter (fun x => !nek x)).length = ((APl Q N).filter (fun x => !nek x)).length by omega]
  refine ((List.filter_append_perm nek (APl P N)).symm.trans ?_).trans (List.filter_append_perm nek (APl Q N))
  rw [h2]
  exact h1.append_right _
