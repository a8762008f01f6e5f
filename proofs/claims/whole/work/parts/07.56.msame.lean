/-! ===== the second reading: sorted numbers alike, columns alike ===== -/
def ckey (P : Pos) (p : Nat) : Nat × Nat := (pkT (P.1 p), hgt P p)
def invR (P : Pos) (N i : Nat) : Nat := ((List.range N).find? (fun p => decide (rk P N p = i))).getD 0
theorem invR_ok {P : Pos} {N i : Nat} (hi : i < N) : invR P N i < N ∧ rk P N (invR P N i) = i := by
  obtain ⟨p, hp, e⟩ := fb_onto (n := N) (f := rk P N) (fun i hi => rk_lt hi) (fun i j hij hj y => by have := rk_inj (by omega) hj y; omega) hi
  unfold invR
  cases h : (List.range N).find? (fun p => decide (rk P N p = i)) with
  | none =>
    rw [List.find?_eq_none] at h
    have := h p (by simpa using hp)
    simp [e] at this
  | some q =>
    have h1 := List.mem_of_find?_eq_some h
    have h2 := List.find?_some h
    exact ⟨by simpa using h1, by simpa using h2⟩
theorem invR_rk {P : Pos} {N p : Nat} (hp : p < N) : invR P N (rk P N p) = p := by
  have h := invR_ok (P := P) (rk_lt (P := P) hp)
  exact rk_inj h.1 hp h.2
def APl (P : Pos) (N : Nat) : List (Nat × Nat) := (List.range N).map (ckey P)
def SPl (P : Pos) (N : Nat) : List (Nat × Nat) := (List.range N).map (fun i => ckey P (invR P N i))
theorem SPl_perm (P : Pos) (N : Nat) : (SPl P N).Perm (APl P N) := by
  have e : SPl P N = ((List.range N).map (invR P N)).map (ckey P) := by unfold SPl; rw [List.map_map]; rfl
  rw [e]
  unfold APl
  refine List.Perm.map _ ?_
  rw [List.perm_ext_iff_of_nodup ?_ List.nodup_range]
  · intro a
    simp only [List.mem_map, List.mem_range]
    constructor
    · rintro ⟨i, hi, rfl⟩; exact (invR_ok hi).1
    · intro ha; exact ⟨rk P N a, rk_lt ha, invR_rk ha⟩
  · unfold List.Nodup
    rw [List.pairwise_map]
    refine List.Pairwise.imp_of_mem ?_ (List.pairwise_lt_range (n := N))
    intro a b ha hb hab y
    have h1 := (invR_ok (P := P) (N := N) (i := a) (by simpa using ha)).2
    have h2 := (invR_ok (P := P) (N := N) (i := b) (by simpa using hb)).2
    rw [y, h2] at h1; omega
def leK (x y : Nat × Nat) : Prop := (lN x.1).toInt < (lN y.1).toInt ∨ ((lN x.1).toInt = (lN y.1).toInt ∧ x.2 ≤ y.2)
theorem SPl_sorted (P : Pos) (N : Nat) : (SPl P N).Pairwise leK := by
  unfold SPl
  rw [List.pairwise_map]
  refine List.Pairwise.imp_of_mem ?_ (List.pairwise_lt_range (n := N))
  intro a b ha hb hab
  have h1 := invR_ok (P := P) (N := N) (i := a) (by simpa using ha)
  have h2 := invR_ok (P := P) (N := N) (i := b) (by simpa using hb)
  have hne : invR P N a ≠ invR P N b := fun y => by rw [y, h2.2] at h1; omega
  rcases ahead_total (P := P) hne with y | y
  · unfold ahead at y
    simp only [decide_eq_true_eq] at y
    unfold leK ckey
    unfold sgI at y
    dsimp only
    omega
  · have := rk_ahead h2.1 y
    omega
theorem lN_inj64 {a b : Nat} (ha : a < 2 ^ 64) (hb : b < 2 ^ 64) (h : lN a = lN b) : a = b := by
  rw [← wb_tn ha, ← wb_tn hb, h]
theorem sorted_eq {P Q : Pos} (hP : KOk P) (hQ : KOk Q) {N : Nat} (h : (APl P N).Perm (APl Q N)) : SPl P N = SPl Q N := by
  refine List.Perm.eq_of_pairwise (le := leK) ?_ (SPl_sorted P N) (SPl_sorted Q N) (((SPl_perm P N).trans h).trans (SPl_perm Q N).symm)
  intro a b ha hb h1 h2
  unfold SPl at ha hb
  rw [List.mem_map] at ha hb
  obtain ⟨i, -, rfl⟩ := ha
  obtain ⟨j, -, rfl⟩ := hb
  have l1 := pkT_lt64 (hP.1.1 (invR P N i)) (hP.1.len _)
  have l2 := pkT_lt64 (hQ.1.1 (invR Q N j)) (hQ.1.len _)
  unfold leK ckey at *
  dsimp only at *
  have e1 : (lN (pkT (P.1 (invR P N i)))).toInt = (lN (pkT (Q.1 (invR Q N j)))).toInt := by omega
  have e2 := lN_inj64 l1 l2 (Int64.toInt_inj.mp e1)
  rw [e2]
  congr 1
  omega
theorem SK_perm {P Q : Pos} (hP : KOk P) (hQ : KOk Q) {N : Nat} (hN : N ≤ 5) {f g : Nat → Int64} (hf : SK P N f) (hg : SK Q N g) : ((∀ i, i < 6 → f i = g i) ↔ (APl P N).Perm (APl Q N)) := by
  have fi : ∀ i, i < N → f i = lN (pkT (P.1 (invR P N i))) := fun i hi => by
    have h := invR_ok (P := P) hi
    have := hf.1 _ h.1
    rwa [h.2] at this
  have gi : ∀ i, i < N → g i = lN (pkT (Q.1 (invR Q N i))) := fun i hi => by
    have h := invR_ok (P := Q) hi
    have := hg.1 _ h.1
    rwa [h.2] at this
  have wP : ∀ i, i < N → ws P N N i = hgt P (invR P N i) := fun i hi => by
    have h := invR_ok (P := P) hi
    have := ws_at (P := P) (Nat.le_refl N) h.1
    rwa [h.2] at this
  have wQ : ∀ i, i < N → ws Q N N i = hgt Q (invR Q N i) := fun i hi => by
    have h := invR_ok (P := Q) hi
    have := ws_at (P := Q) (Nat.le_refl N) h.1
    rwa [h.2] at this
  have b5 : ∀ P : Pos, KOk P → sumB 10 (ws P N N) 5 < 2 ^ 64 := fun P h => Nat.lt_of_lt_of_le (sumB_lt (b := 10) (k := 5) (fun i _ => ws_lt h N i)) (Nat.pow_le_pow_right (by omega) (by omega))
  constructor
  · intro h
    have e5 := lN_inj64 (b5 P hP) (b5 Q hQ) (by rw [← hf.2.2.1, ← hg.2.2.1]; exact h 5 (by omega))
    have ew : ∀ i, i < 5 → ws P N N i = ws Q N N i := fun i hi => by
      rw [← sumB_at (k := 5) (fun i _ => ws_lt hP N i) hi, ← sumB_at (k := 5) (fun i _ => ws_lt hQ N i) hi, e5]
    have es : SPl P N = SPl Q N := by
      unfold SPl
      apply List.map_congr_left
      intro i hi
      have hi2 : i < N := by simpa using hi
      have e1 := lN_inj64 (pkT_lt64 (hP.1.1 (invR P N i)) (hP.1.len _)) (pkT_lt64 (hQ.1.1 (invR Q N i)) (hQ.1.len _)) (by rw [← fi i hi2, ← gi i hi2]; exact h i (by omega))
      have e2 := ew i (by omega)
      rw [wP i hi2, wQ i hi2] at e2
      unfold ckey
      rw [e1, e2]
    exact ((SPl_perm P N).symm.trans (es ▸ List.Perm.refl _)).trans (SPl_perm Q N)
  · intro h i hi
    have es := sorted_eq hP hQ h
    have ek : ∀ i, i < N → ckey P (invR P N i) = ckey Q (invR Q N i) := fun i hi => by
      have h1 := congrArg (fun l => l[i]?) es
      unfold SPl at h1
      simp only [List.getElem?_map, List.getElem?_range hi, Option.map_some, Option.some.injEq] at h1
      exact h1
    by_cases z : i < N
    · rw [fi i z, gi i z]
      have := congrArg Prod.fst (ek i z)
      exact congrArg lN this
    · by_cases z5 : i < 5
      · rw [hf.2.1 i (by omega) z5, hg.2.1 i (by omega) z5]
      · have : i = 5 := by omega
        subst this
        rw [hf.2.2.1, hg.2.2.1]
        congr 1
        apply sumB_congr
        intro i hi
        by_cases z : i < N
        · rw [wP i z, wQ i z]; exact congrArg Prod.snd (ek i z)
        · rw [ws_out (Nat.le_refl N) (fun p hp y => by have := rk_lt (P := P) hp; omega), ws_out (Nat.le_refl N) (fun p hp y => by have := rk_lt (P := Q) hp; omega)]
